/-! Walking the small machine: 'rx_aw m pc ls st h Q': the run from there ends, with Q. -/
def rx_aw (m pc : Nat) (ls st : List Value) (h : rx_H) (Q : Option Value → rx_H → Prop) : Prop := ∃ (n : Nat) (r : Option Value) (h2 : rx_H), rx_run n m pc ls st h = some (r, h2) ∧ Q r h2
/-- a whole method, by its arguments -/
def rx_me (m : Nat) (as : List Value) (h : rx_H) (Q : Option Value → rx_H → Prop) : Prop := rx_aw m 0 (rx_args (rx_m m).2.2.1 as) [] h Q
def rx_nc : Nat → List Value → rx_H → Option (Option Value × rx_H) := fun _ _ _ => none
theorem rx_cl_less {call call2 : Nat → List Value → rx_H → Option (Option Value × rx_H)} (hc : ∀ j as g q, call j as g = some q → call2 j as g = some q) {j pc : Nat} {ls st : List Value} {h : rx_H} {q : (Option Value × rx_H) ⊕ rx_C} (e : rx_cl call j pc ls st h = some q) : rx_cl call2 j pc ls st h = some q := by
  unfold rx_cl at e ⊢
  obtain ⟨e1, e⟩ := rx_bif e
  rw [e1]
  split at e
  · cases e
  · rename_i z hz
    rw [cond_true, hc _ _ _ _ hz]
    exact e
theorem rx_one_less {call call2 : Nat → List Value → rx_H → Option (Option Value × rx_H)} (hc : ∀ j as g q, call j as g = some q → call2 j as g = some q) {m pc : Nat} {ls st : List Value} {h : rx_H} {q : (Option Value × rx_H) ⊕ rx_C} (e : rx_one call m pc ls st h = some q) : rx_one call2 m pc ls st h = some q := by
  unfold rx_one at e ⊢
  split at e
  · cases e
  · split at e
    · exact e
    · exact e
    · exact e
    · exact e
    · exact rx_cl_less hc e
    · split at e
      · exact e
      · exact rx_cl_less hc e
    · split at e
      · exact e
      · exact e
      · exact e
      · obtain ⟨e1, e⟩ := rx_bif e
        rw [e1]
        exact rx_cl_less hc e
    · exact e
theorem rx_run_more : ∀ (n : Nat) {k m pc : Nat} {ls st : List Value} {h : rx_H} {q : Option Value × rx_H}, n ≤ k → rx_run n m pc ls st h = some q → rx_run k m pc ls st h = some q
  | 0, _, _, _, _, _, _, _, _, e => by cases e
  | n + 1, 0, _, _, _, _, _, _, hk, _ => by omega
  | n + 1, k + 1, m, pc, ls, st, h, q, hk, e => by
    rw [rx_run] at e ⊢
    have hnk : n ≤ k := by omega
    split at e
    · cases e
    · rename_i r hr
      rw [rx_one_less (call2 := fun j as g => rx_run k j 0 (rx_args (rx_m j).2.2.1 as) [] g) (fun j as g q hq => rx_run_more n hnk hq) hr]
      exact e
    · rename_i c hc
      rw [rx_one_less (call2 := fun j as g => rx_run k j 0 (rx_args (rx_m j).2.2.1 as) [] g) (fun j as g q hq => rx_run_more n hnk hq) hc]
      exact rx_run_more n hnk e
theorem rx_aw.mono {m pc : Nat} {ls st : List Value} {h : rx_H} {Q Q2 : Option Value → rx_H → Prop} (a : rx_aw m pc ls st h Q) (hq : ∀ r h2, Q r h2 → Q2 r h2) : rx_aw m pc ls st h Q2 := by
  obtain ⟨n, r, h2, e, q⟩ := a
  exact ⟨n, r, h2, e, hq r h2 q⟩
/-- steps that neither call nor return: how many, from where to where -/
def rx_go : Nat → Nat → rx_C → Option rx_C
  | 0, _, c => some c
  | n + 1, m, c => match rx_one rx_nc m c.1 c.2.1 c.2.2.1 c.2.2.2 with
    | some (.inr g) => rx_go n m g
    | _ => none
theorem rx_aw_one {m pc : Nat} {ls st : List Value} {h : rx_H} {Q : Option Value → rx_H → Prop} {g : rx_C} (e : rx_one rx_nc m pc ls st h = some (.inr g)) (k : rx_aw m g.1 g.2.1 g.2.2.1 g.2.2.2 Q) : rx_aw m pc ls st h Q := by
  obtain ⟨n, r, h2, e2, q⟩ := k
  refine ⟨n + 1, r, h2, ?_, q⟩
  rw [rx_run, rx_one_less (call2 := fun j as g => rx_run n j 0 (rx_args (rx_m j).2.2.1 as) [] g) (fun j as g q hq => by cases hq) e]
  exact e2
theorem rx_aw_go : ∀ (n : Nat) {m : Nat} {c g : rx_C} {Q : Option Value → rx_H → Prop}, rx_go n m c = some g → rx_aw m g.1 g.2.1 g.2.2.1 g.2.2.2 Q → rx_aw m c.1 c.2.1 c.2.2.1 c.2.2.2 Q
  | 0, m, c, g, Q, e, k => by cases e; exact k
  | n + 1, m, c, g, Q, e, k => by
    unfold rx_go at e
    split at e
    · rename_i z hz
      exact rx_aw_one hz (rx_aw_go n e k)
    · cases e
/-- the same, for a state given by its parts -/
theorem rx_aw_s (n : Nat) {m pc pc2 : Nat} {ls st ls2 st2 : List Value} {h h2 : rx_H} {Q : Option Value → rx_H → Prop} (e : rx_go n m (pc, ls, st, h) = some (pc2, ls2, st2, h2)) (k : rx_aw m pc2 ls2 st2 h2 Q) : rx_aw m pc ls st h Q := rx_aw_go n e k
theorem rx_aw_ret {m pc : Nat} {ls st : List Value} {h h2 : rx_H} {r : Option Value} {Q : Option Value → rx_H → Prop} (e : rx_one rx_nc m pc ls st h = some (.inl (r, h2))) (k : Q r h2) : rx_aw m pc ls st h Q := by
  refine ⟨1, r, h2, ?_, k⟩
  rw [rx_run, rx_one_less (call2 := fun j as g => rx_run 0 j 0 (rx_args (rx_m j).2.2.1 as) [] g) (fun j as g q hq => by cases hq) e]
/-- whom an instruction calls -/
def rx_callee (i : Instr) : Option Nat := match i with
  | .invokevirtual j => some j
  | .invokespecial j => bif Nat.beq j 0 then none else some j
  | .invokestatic j => bif Nat.beq j 0 || Nat.ble 2000 j then none else some (j % 1000)
  | _ => none
theorem rx_one_call {call : Nat → List Value → rx_H → Option (Option Value × rx_H)} {m pc j : Nat} {i : Instr} {ls st : List Value} {h : rx_H} (hP : rx_P m pc = some i) (hc : rx_callee i = some j) : rx_one call m pc ls st h = rx_cl call j pc ls st h := by
  unfold rx_one
  rw [hP]
  cases i with
  | invokevirtual j' => cases hc; rfl
  | invokespecial j' =>
    cases j' with
    | zero => cases hc
    | succ n => cases hc; rfl
  | invokestatic j' =>
    unfold rx_callee at hc
    dsimp only at hc
    cases hb : Nat.beq j' 0 || Nat.ble 2000 j' with
    | true => rw [hb] at hc; cases hc
    | false =>
      rw [hb] at hc
      cases hc
      rw [Bool.or_eq_false_iff] at hb
      have h2 : j' < 2000 := by
        rcases Nat.lt_or_ge j' 2000 with g | g
        · exact g
        · rw [Nat.ble_eq_true_of_le g] at hb; cases hb.2
      have h0 : j' ≠ 0 := fun q => by rw [q] at hb; cases hb.1
      dsimp only
      split
      · omega
      · omega
      · omega
      · rename_i n _ _
        have : Nat.blt (n + 1) 2000 = true := Nat.ble_eq_true_of_le h2
        rw [this]
        rfl
  | _ => cases hc
/-- a call of method j -/
theorem rx_aw_call {m pc j : Nat} {i : Instr} {ls st as rest : List Value} {h : rx_H} {Q : Option Value → rx_H → Prop} (hP : rx_P m pc = some i) (hc : rx_callee i = some j) (has : (st.take (rx_na j)).reverse = as) (hrest : st.drop (rx_na j) = rest) (hm : (Nat.ble (rx_na j) st.length && rx_may j as rest h) = true)
    (k : rx_me j as h (fun r h2 => rx_aw m (pc + 3) ls (r.toList ++ rest) h2 Q)) : rx_aw m pc ls st h Q := by
  subst has
  subst hrest
  obtain ⟨n1, r1, h1, e1, n2, r2, h2, e2, q⟩ := k
  refine ⟨max n1 n2 + 1, r2, h2, ?_, q⟩
  rw [rx_run, rx_one_call hP hc]
  unfold rx_cl
  rw [hm]
  dsimp only [cond_true]
  rw [rx_run_more n1 (Nat.le_max_left n1 n2) e1]
  exact rx_run_more n2 (Nat.le_max_right n1 n2) e2
theorem rx_aw_if {m a b : Nat} {ls st : List Value} {h : rx_H} {Q : Option Value → rx_H → Prop} {c : Bool} (kt : c = true → rx_aw m a ls st h Q) (kf : c = false → rx_aw m b ls st h Q) : rx_aw m (bif c then a else b) ls st h Q := by
  cases c with
  | true => exact kt rfl
  | false => exact kf rfl
