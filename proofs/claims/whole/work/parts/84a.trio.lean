/-! few of the class: the Trio is made once. -/
section RXT
variable {L : Nat} {hi : Nat → Nat → Int32} {hl : Nat → Nat → Int64} {v : Nat → Nat → Option Nat} {Q : Option Value → rx_H → Prop}
/-- the heap behind new Trio -/
def rx_t0 (L : Nat) (hi : Nat → Nat → Int32) (hl : Nat → Nat → Int64) (v : Nat → Nat → Option Nat) : rx_H := rx_nw (rx_hp L [] hi hl v) 10 11
def rx_ta (h : rx_H) (c n k : Nat) : rx_H := rx_sr (rx_nw h 14 n) 134 k (some c)
/-- and behind its constructor -/
def rx_t1 (L : Nat) (hi : Nat → Nat → Int32) (hl : Nat → Nat → Int64) (v : Nat → Nat → Option Nat) : rx_H := rx_sr (rx_sr (rx_si (rx_ta (rx_ta (rx_ta (rx_ta (rx_ta (rx_ta (rx_ta (rx_ta (rx_t0 L hi hl v) 135 20 2) 136 315 3) 137 63 4) 138 3 5) 139 3 6) 140 9261 7) 141 9269 8) 142 9269 9) 134 10 0) 134 0 (some 7)) 134 1 (some 13)
set_option maxRecDepth 100000 in
theorem w123 (k : Q none (rx_t1 L hi hl v)) : rx_me 123 [.ref 134, .ref 7, .ref 13] (rx_t0 L hi hl v) Q := by
  show rx_aw 123 0 [.ref 134, .ref 7, .ref 13] [] (rx_t0 L hi hl v) Q
  refine rx_aw_s 2 (pc := 0) rfl ?_
  refine rx_aw_s 4 (pc := 4) rfl ?_
  show rx_aw 123 12 [.ref 134, .ref 7, .ref 13] [] (rx_ta (rx_t0 L hi hl v) 135 20 2) Q
  refine rx_aw_s 4 (pc := 12) rfl ?_
  show rx_aw 123 21 [.ref 134, .ref 7, .ref 13] [] (rx_ta (rx_ta (rx_t0 L hi hl v) 135 20 2) 136 315 3) Q
  refine rx_aw_s 4 (pc := 21) rfl ?_
  show rx_aw 123 29 [.ref 134, .ref 7, .ref 13] [] (rx_ta (rx_ta (rx_ta (rx_t0 L hi hl v) 135 20 2) 136 315 3) 137 63 4) Q
  refine rx_aw_s 4 (pc := 29) rfl ?_
  show rx_aw 123 36 [.ref 134, .ref 7, .ref 13] [] (rx_ta (rx_ta (rx_ta (rx_ta (rx_t0 L hi hl v) 135 20 2) 136 315 3) 137 63 4) 138 3 5) Q
  refine rx_aw_s 4 (pc := 36) rfl ?_
  show rx_aw 123 43 [.ref 134, .ref 7, .ref 13] [] (rx_ta (rx_ta (rx_ta (rx_ta (rx_ta (rx_t0 L hi hl v) 135 20 2) 136 315 3) 137 63 4) 138 3 5) 139 3 6) Q
  refine rx_aw_s 4 (pc := 43) rfl ?_
  show rx_aw 123 52 [.ref 134, .ref 7, .ref 13] [] (rx_ta (rx_ta (rx_ta (rx_ta (rx_ta (rx_ta (rx_t0 L hi hl v) 135 20 2) 136 315 3) 137 63 4) 138 3 5) 139 3 6) 140 9261 7) Q
  refine rx_aw_s 4 (pc := 52) rfl ?_
  show rx_aw 123 61 [.ref 134, .ref 7, .ref 13] [] (rx_ta (rx_ta (rx_ta (rx_ta (rx_ta (rx_ta (rx_ta (rx_t0 L hi hl v) 135 20 2) 136 315 3) 137 63 4) 138 3 5) 139 3 6) 140 9261 7) 141 9269 8) Q
  refine rx_aw_s 4 (pc := 61) rfl ?_
  show rx_aw 123 70 [.ref 134, .ref 7, .ref 13] [] (rx_ta (rx_ta (rx_ta (rx_ta (rx_ta (rx_ta (rx_ta (rx_ta (rx_t0 L hi hl v) 135 20 2) 136 315 3) 137 63 4) 138 3 5) 139 3 6) 140 9261 7) 141 9269 8) 142 9269 9) Q
  refine rx_aw_s 9 (pc := 70) rfl ?_
  show rx_aw 123 85 [.ref 134, .ref 7, .ref 13] [] (rx_t1 L hi hl v) Q
  exact rx_aw_ret (pc := 85) rfl k
/-- the rows of the new cells -/
def rx_z9 {α : Type} (f : Nat → Nat → α) (z : α) : Nat → Nat → α := rx_row (rx_row (rx_row (rx_row (rx_row (rx_row (rx_row (rx_row (rx_row f 134 (fun _ => z)) 135 (fun _ => z)) 136 (fun _ => z)) 137 (fun _ => z)) 138 (fun _ => z)) 139 (fun _ => z)) 140 (fun _ => z)) 141 (fun _ => z)) 142 (fun _ => z)
theorem rx_z9_lt {α : Type} {f : Nat → Nat → α} {z : α} {a b : Nat} (h : a < 134) : rx_z9 f z a b = f a b := by
  unfold rx_z9 rx_row
  simp only [if_neg (show ¬ a = 134 by omega), if_neg (show ¬ a = 135 by omega), if_neg (show ¬ a = 136 by omega), if_neg (show ¬ a = 137 by omega), if_neg (show ¬ a = 138 by omega), if_neg (show ¬ a = 139 by omega), if_neg (show ¬ a = 140 by omega), if_neg (show ¬ a = 141 by omega), if_neg (show ¬ a = 142 by omega)]
/-- the references -/
def rx_v9 (f : Nat → Nat → Option Nat) : Nat → Nat → Option Nat := fun a b => if a = 1 ∧ b = 7 then some 134 else if a = 134 then rx_fx134.getD b none else if 135 ≤ a ∧ a ≤ 142 then none else f a b
set_option maxRecDepth 100000 in
theorem rx_t1_v : rx_u (rx_t1 L hi hl v).2.2.2 1 7 (some 134) = rx_hr (rx_v9 (rx_hr v)) := by
  have e : (rx_t1 L hi hl v).2.2.2 = rx_u (rx_u (rx_u (rx_row (rx_u (rx_row (rx_u (rx_row (rx_u (rx_row (rx_u (rx_row (rx_u (rx_row (rx_u (rx_row (rx_u (rx_row (rx_row (rx_hr v) 134 (fun _ => none)) 135 (fun _ => none)) 134 2 (some 135)) 136 (fun _ => none)) 134 3 (some 136)) 137 (fun _ => none)) 134 4 (some 137)) 138 (fun _ => none)) 134 5 (some 138)) 139 (fun _ => none)) 134 6 (some 139)) 140 (fun _ => none)) 134 7 (some 140)) 141 (fun _ => none)) 134 8 (some 141)) 142 (fun _ => none)) 134 9 (some 142)) 134 0 (some 7)) 134 1 (some 13) := rfl
  rw [e]
  funext a b
  by_cases h1 : a = 1 ∧ b = 7
  · obtain ⟨rfl, rfl⟩ := h1
    rw [cf_ru_eq]
    show some 134 = (match rx_fixd 1 7 with | some q => some q | none => rx_v9 (rx_hr v) 1 7)
    rfl
  · rw [cf_ru_ne h1]
    by_cases h2 : a = 134
    · subst h2
      have r : ∀ (f : Nat → Nat → Option Nat) (i : Nat) (g : Nat → Option Nat), ¬ i = 134 → rx_row f i g 134 b = f 134 b := fun f i g hn => by unfold rx_row; rw [if_neg (fun z => hn z.symm)]
      have u : ∀ (f : Nat → Nat → Option Nat) (k : Nat) (x : Option Nat), rx_u f 134 k x 134 b = if b = k then x else f 134 b := fun f k x => by
        by_cases z : b = k
        · rw [if_pos z, z, cf_ru_eq]
        · rw [if_neg z, cf_ru_ne (by omega)]
      simp only [u, r _ 142 _ (by omega), r _ 141 _ (by omega), r _ 140 _ (by omega), r _ 139 _ (by omega), r _ 138 _ (by omega), r _ 137 _ (by omega), r _ 136 _ (by omega), r _ 135 _ (by omega)]
      show _ = (match rx_fx134.getD b none with | some q => some q | none => rx_v9 (rx_hr v) 134 b)
      by_cases hb : b < 10
      · have : b = 0 ∨ b = 1 ∨ b = 2 ∨ b = 3 ∨ b = 4 ∨ b = 5 ∨ b = 6 ∨ b = 7 ∨ b = 8 ∨ b = 9 := by omega
        rcases this with rfl | rfl | rfl | rfl | rfl | rfl | rfl | rfl | rfl | rfl <;> rfl
      · have e1 : rx_fx134.getD b none = none := by
          obtain ⟨c, rfl⟩ : ∃ c, b = c + 10 := ⟨b - 10, by omega⟩
          rfl
        have e2 : rx_v9 (rx_hr v) 134 b = none := by unfold rx_v9; rw [if_neg h1, if_pos rfl]; exact e1
        rw [e1]
        show _ = rx_v9 (rx_hr v) 134 b
        rw [e2, if_neg (by omega), if_neg (by omega), if_neg (by omega), if_neg (by omega), if_neg (by omega), if_neg (by omega), if_neg (by omega), if_neg (by omega), if_neg (by omega), if_neg (by omega)]
        unfold rx_row; rw [if_pos rfl]
    · have u : ∀ (f : Nat → Nat → Option Nat) (k : Nat) (x : Option Nat), rx_u f 134 k x a b = f a b := fun f k x => cf_ru_ne (fun z => h2 z.1)
      by_cases h3 : 135 ≤ a ∧ a ≤ 142
      · have : a = 135 ∨ a = 136 ∨ a = 137 ∨ a = 138 ∨ a = 139 ∨ a = 140 ∨ a = 141 ∨ a = 142 := by omega
        rcases this with rfl | rfl | rfl | rfl | rfl | rfl | rfl | rfl <;> rfl
      · have r : ∀ (f : Nat → Nat → Option Nat) (i : Nat) (g : Nat → Option Nat), ¬ a = i → rx_row f i g a b = f a b := fun f i g hn => by unfold rx_row; rw [if_neg hn]
        simp only [u, r _ 142 _ (show ¬ a = 142 by omega), r _ 141 _ (show ¬ a = 141 by omega), r _ 140 _ (show ¬ a = 140 by omega), r _ 139 _ (show ¬ a = 139 by omega), r _ 138 _ (show ¬ a = 138 by omega), r _ 137 _ (show ¬ a = 137 by omega), r _ 136 _ (show ¬ a = 136 by omega), r _ 135 _ (show ¬ a = 135 by omega), r _ 134 _ h2]
        have e2 : rx_v9 (rx_hr v) a b = rx_hr v a b := by unfold rx_v9; rw [if_neg h1, if_neg h2, if_neg h3]
        unfold rx_hr at e2 ⊢
        cases hf : rx_fixd a b with
        | some q => rfl
        | none =>
          rw [hf] at e2
          exact e2.symm
set_option maxRecDepth 100000 in
theorem rx_t1_hp : rx_sr (rx_t1 L hi hl v) 1 7 (some 134) = rx_hp L rx_tr (rx_u (rx_z9 hi 0) 134 10 0) (rx_z9 hl 0) (rx_v9 (rx_hr v)) := by
  have e1 : (rx_t1 L hi hl v).1 = rx_sh L rx_tr := rfl
  have e2 : (rx_t1 L hi hl v).2.1 = rx_u (rx_z9 hi 0) 134 10 0 := rfl
  have e3 : (rx_t1 L hi hl v).2.2.1 = rx_z9 hl 0 := rfl
  show ((rx_t1 L hi hl v).1, (rx_t1 L hi hl v).2.1, (rx_t1 L hi hl v).2.2.1, rx_u (rx_t1 L hi hl v).2.2.2 1 7 (some 134)) = _
  rw [e1, e2, e3, rx_t1_v]
  rfl
end RXT
