/-! Rules in the form that a program's text uses (k: what is left to show, as one proposition). -/
section RXP
variable {m pc i n : Nat} {ls st : List Value} {h : rx_H} {Q : Option Value → rx_H → Prop} {x : Int32}
theorem rx_w_if {a b : Nat} {c : Prop} [Decidable c] (k : (c → rx_aw m a ls st h Q) ∧ (¬ c → rx_aw m b ls st h Q)) : rx_aw m (bif decide c then a else b) ls st h Q := by
  by_cases hc : c
  · rw [decide_eq_true hc]; exact k.1 hc
  · rw [decide_eq_false hc]; exact k.2 hc
theorem rx_w_ifn {a b : Nat} {c : Prop} [Decidable c] (k : (c → rx_aw m b ls st h Q) ∧ (¬ c → rx_aw m a ls st h Q)) : rx_aw m (bif !decide c then a else b) ls st h Q := by
  by_cases hc : c
  · rw [decide_eq_true hc]; exact k.1 hc
  · rw [decide_eq_false hc]; exact k.2 hc
theorem rx_w_ite {a b : Nat} {c : Prop} [Decidable c] (k : (c → rx_aw m a ls st h Q) ∧ (¬ c → rx_aw m b ls st h Q)) : rx_aw m (if c then a else b) ls st h Q := by
  by_cases hc : c
  · rw [if_pos hc]; exact k.1 hc
  · rw [if_neg hc]; exact k.2 hc
theorem rx_w_iald (hP : rx_P m pc = some .iaload) (hk : rx_kind h i = 14) (hn : rx_len h i = n) (hb : n < 2 ^ 31) (k : ∃ j : Nat, x = nI j ∧ j < n ∧ rx_aw m (pc + 1) ls (.int (h.2.1 i j) :: st) h Q) : rx_aw m pc ls (.int x :: .ref i :: st) h Q := by
  obtain ⟨j, h1, h2, h3⟩ := k
  exact rx_aw_iald j h1 hP hk hn h2 hb h3
theorem rx_w_bald (hP : rx_P m pc = some .baload) (hk : rx_kind h i = 13 ∨ rx_kind h i = 16) (h0 : 0 < i) (hn : rx_len h i = n) (hb : n < 2 ^ 31) (k : ∃ j : Nat, x = nI j ∧ j < n ∧ rx_aw m (pc + 1) ls (.int (h.2.1 i j) :: st) h Q) : rx_aw m pc ls (.int x :: .ref i :: st) h Q := by
  obtain ⟨j, h1, h2, h3⟩ := k
  exact rx_aw_bald j h1 hP hk h0 hn h2 hb h3
theorem rx_w_lald (hP : rx_P m pc = some .laload) (hk : rx_kind h i = 15) (h0 : 0 < i) (hn : rx_len h i = n) (hb : n < 2 ^ 31) (k : ∃ j : Nat, x = nI j ∧ j < n ∧ rx_aw m (pc + 1) ls (.long (h.2.2.1 i j) :: st) h Q) : rx_aw m pc ls (.int x :: .ref i :: st) h Q := by
  obtain ⟨j, h1, h2, h3⟩ := k
  exact rx_aw_lald j h1 hP hk h0 hn h2 hb h3
theorem rx_w_aald (hP : rx_P m pc = some .aaload) (hk : rx_kind h i = 17 ∨ rx_kind h i = 18) (h0 : 0 < i) (hn : rx_len h i = n) (hb : n < 2 ^ 31) (k : ∃ j : Nat, x = nI j ∧ j < n ∧ rx_aw m (pc + 1) ls (va_rf (h.2.2.2 i j) :: st) h Q) : rx_aw m pc ls (.int x :: .ref i :: st) h Q := by
  obtain ⟨j, h1, h2, h3⟩ := k
  exact rx_aw_aald j h1 hP hk h0 hn h2 hb h3
theorem rx_w_iast {v : Int32} (hP : rx_P m pc = some .iastore) (hk : rx_kind h i = 14) (h0 : 0 < i) (hn : rx_len h i = n) (hb : n < 2 ^ 31) (k : ∃ j : Nat, x = nI j ∧ j < n ∧ rx_aw m (pc + 1) ls st (rx_si h i j v) Q) : rx_aw m pc ls (.int v :: .int x :: .ref i :: st) h Q := by
  obtain ⟨j, h1, h2, h3⟩ := k
  exact rx_aw_iast j h1 hP hk h0 hn h2 hb h3
theorem rx_w_bast {v : Int32} (hP : rx_P m pc = some .bastore) (hk : rx_kind h i = 13) (h0 : 0 < i) (hn : rx_len h i = n) (hb : n < 2 ^ 31) (k : ∃ j : Nat, x = nI j ∧ j < n ∧ rx_aw m (pc + 1) ls st (rx_si h i j (vp_nar .byte v)) Q) : rx_aw m pc ls (.int v :: .int x :: .ref i :: st) h Q := by
  obtain ⟨j, h1, h2, h3⟩ := k
  exact rx_aw_bast j h1 hP hk h0 hn h2 hb h3
theorem rx_w_zast {v : Int32} (hP : rx_P m pc = some .bastore) (hk : rx_kind h i = 16) (h0 : 0 < i) (hn : rx_len h i = n) (hb : n < 2 ^ 31) (k : ∃ j : Nat, x = nI j ∧ j < n ∧ rx_aw m (pc + 1) ls st (rx_si h i j (vp_nar .boolean v)) Q) : rx_aw m pc ls (.int v :: .int x :: .ref i :: st) h Q := by
  obtain ⟨j, h1, h2, h3⟩ := k
  exact rx_aw_zast j h1 hP hk h0 hn h2 hb h3
theorem rx_w_last {v : Int64} (hP : rx_P m pc = some .lastore) (hk : rx_kind h i = 15) (h0 : 0 < i) (hn : rx_len h i = n) (hb : n < 2 ^ 31) (k : ∃ j : Nat, x = nI j ∧ j < n ∧ rx_aw m (pc + 1) ls st (rx_sl h i j v) Q) : rx_aw m pc ls (.long v :: .int x :: .ref i :: st) h Q := by
  obtain ⟨j, h1, h2, h3⟩ := k
  exact rx_aw_last j h1 hP hk h0 hn h2 hb h3
theorem rx_w_div {v : Int32} (hP : rx_P m pc = some .idiv) (k : ¬ v = 0 ∧ rx_aw m (pc + 1) ls (.int (x / v) :: st) h Q) : rx_aw m pc ls (.int v :: .int x :: st) h Q := rx_aw_div hP k.1 k.2
theorem rx_w_rem {v : Int32} (hP : rx_P m pc = some .irem) (k : ¬ v = 0 ∧ rx_aw m (pc + 1) ls (.int (x - x / v * v) :: st) h Q) : rx_aw m pc ls (.int v :: .int x :: st) h Q := rx_aw_rem hP k.1 k.2
/-- a call that answers an int, a long, a reference or nothing -/
theorem rx_w_callI {j : Nat} {ins : Instr} {as rest : List Value} (hP : rx_P m pc = some ins) (hc : rx_callee ins = some j) (has : (st.take (rx_na j)).reverse = as) (hrest : st.drop (rx_na j) = rest) (hm : (Nat.ble (rx_na j) st.length && rx_may j as rest h) = true)
    (k : rx_me j as h (fun r h2 => ∃ z : Int32, r = some (.int z) ∧ rx_aw m (pc + 3) ls (.int z :: rest) h2 Q)) : rx_aw m pc ls st h Q :=
  rx_aw_call hP hc has hrest hm (rx_aw.mono k (fun r h2 ⟨z, hz, q⟩ => by subst hz; exact q))
theorem rx_w_callL {j : Nat} {ins : Instr} {as rest : List Value} (hP : rx_P m pc = some ins) (hc : rx_callee ins = some j) (has : (st.take (rx_na j)).reverse = as) (hrest : st.drop (rx_na j) = rest) (hm : (Nat.ble (rx_na j) st.length && rx_may j as rest h) = true)
    (k : rx_me j as h (fun r h2 => ∃ z : Int64, r = some (.long z) ∧ rx_aw m (pc + 3) ls (.long z :: rest) h2 Q)) : rx_aw m pc ls st h Q :=
  rx_aw_call hP hc has hrest hm (rx_aw.mono k (fun r h2 ⟨z, hz, q⟩ => by subst hz; exact q))
theorem rx_w_callR {j : Nat} {ins : Instr} {as rest : List Value} (hP : rx_P m pc = some ins) (hc : rx_callee ins = some j) (has : (st.take (rx_na j)).reverse = as) (hrest : st.drop (rx_na j) = rest) (hm : (Nat.ble (rx_na j) st.length && rx_may j as rest h) = true)
    (k : rx_me j as h (fun r h2 => ∃ z : Option Nat, r = some (va_rf z) ∧ rx_aw m (pc + 3) ls (va_rf z :: rest) h2 Q)) : rx_aw m pc ls st h Q :=
  rx_aw_call hP hc has hrest hm (rx_aw.mono k (fun r h2 ⟨z, hz, q⟩ => by subst hz; exact q))
theorem rx_w_callV {j : Nat} {ins : Instr} {as rest : List Value} (hP : rx_P m pc = some ins) (hc : rx_callee ins = some j) (has : (st.take (rx_na j)).reverse = as) (hrest : st.drop (rx_na j) = rest) (hm : (Nat.ble (rx_na j) st.length && rx_may j as rest h) = true)
    (k : rx_me j as h (fun r h2 => r = none ∧ rx_aw m (pc + 3) ls rest h2 Q)) : rx_aw m pc ls st h Q :=
  rx_aw_call hP hc has hrest hm (rx_aw.mono k (fun r h2 ⟨hz, q⟩ => by subst hz; exact q))
end RXP
/-- heaps of the form that the constructors leave -/
def rx_ok2 (L : Nat) (t : List (Nat × Nat)) (h : rx_H) (P : (Nat → Nat → Int32) → (Nat → Nat → Int64) → (Nat → Nat → Option Nat) → Prop) : Prop := ∃ hi hl v, h = rx_hp L t hi hl v ∧ P hi hl v
