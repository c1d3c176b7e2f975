/-! Nothing writes into the script. -/
theorem rx_blt0 {i : Nat} (h : Nat.blt 0 i = true) : ¬ 0 = i := by
  cases i with
  | zero => cases h
  | succ n => omega
theorem rx_u0 {α : Type} {f : Nat → Nat → α} {i k : Nat} {x : α} (h : ¬ 0 = i) : rx_u f i k x 0 = f 0 := if_neg h
theorem rx_row0 {α : Type} {f : Nat → Nat → α} {i : Nat} {g : Nat → α} (h : ¬ 0 = i) : rx_row f i g 0 = f 0 := if_neg h
theorem rx_is0 {h : rx_H} {i t k : Nat} (e : rx_is h i t k = true) : ¬ 0 = i := by
  unfold rx_is at e
  split at e
  · rw [Bool.and_eq_true] at e; exact rx_blt0 e.2
  · cases e
theorem rx_ex_row0 {i : Instr} {pc : Nat} {ls st : List Value} {h : rx_H} {g : rx_C} (hn : ¬ 0 = h.1.length) (hex : rx_ex i pc ls st h = some g) : g.2.2.2.2.1 0 = h.2.1 0 := by
  cases i with
  | iload k => obtain ⟨x, -, rfl⟩ := rx_ild_inv hex; rfl
  | iload_n k => obtain ⟨x, -, rfl⟩ := rx_ild_inv hex; rfl
  | lload k => obtain ⟨x, -, rfl⟩ := rx_lld_inv hex; rfl
  | lload_n k => obtain ⟨x, -, rfl⟩ := rx_lld_inv hex; rfl
  | aload k => rcases rx_ald_inv hex with ⟨x, -, rfl⟩ | ⟨-, rfl⟩ <;> rfl
  | aload_n k => rcases rx_ald_inv hex with ⟨x, -, rfl⟩ | ⟨-, rfl⟩ <;> rfl
  | istore k => obtain ⟨x, r, -, -, rfl⟩ := rx_ist_inv hex; rfl
  | istore_n k => obtain ⟨x, r, -, -, rfl⟩ := rx_ist_inv hex; rfl
  | lstore k => obtain ⟨x, r, -, -, rfl⟩ := rx_lst_inv hex; rfl
  | lstore_n k => obtain ⟨x, r, -, -, rfl⟩ := rx_lst_inv hex; rfl
  | astore k => rcases rx_ast_inv hex with ⟨x, r, -, -, rfl⟩ | ⟨r, -, -, rfl⟩ <;> rfl
  | astore_n k => rcases rx_ast_inv hex with ⟨x, r, -, -, rfl⟩ | ⟨r, -, -, rfl⟩ <;> rfl
  | new c => cases hex; exact rx_row0 hn
  | newarray a =>
    unfold rx_ex at hex
    dsimp only at hex
    split at hex
    · obtain ⟨-, e2⟩ := rx_bif hex; cases e2; exact rx_row0 hn
    · cases hex
  | anewarray a =>
    unfold rx_ex at hex
    dsimp only at hex
    split at hex
    · obtain ⟨-, e2⟩ := rx_bif hex; cases e2; exact rx_row0 hn
    · cases hex
  | bastore =>
    unfold rx_ex at hex
    dsimp only at hex
    split at hex
    · rename_i v x i r
      obtain ⟨e1, e2⟩ := rx_bif hex
      rw [Bool.and_eq_true] at e1
      cases e5 : Nat.beq (rx_kind h i) 13 with
      | true => rw [e5] at e2; cases e2; exact rx_u0 (rx_blt0 e1.1)
      | false => rw [e5] at e2; obtain ⟨-, e3⟩ := rx_bif e2; cases e3; exact rx_u0 (rx_blt0 e1.1)
    · cases hex
  | iastore =>
    unfold rx_ex at hex
    dsimp only at hex
    split at hex
    · obtain ⟨e1, e2⟩ := rx_bif hex
      rw [Bool.and_eq_true, Bool.and_eq_true] at e1
      cases e2
      exact rx_u0 (rx_blt0 e1.1.2)
    · cases hex
  | putfield f =>
    unfold rx_ex at hex
    dsimp only at hex
    split at hex
    · obtain ⟨e1, e2⟩ := rx_bif hex
      split at e2
      · cases e2; exact rx_u0 (rx_is0 e1)
      · cases e2; rfl
      · cases e2; rfl
      · cases e2; rfl
      · obtain ⟨-, e3⟩ := rx_bif e2; cases e3; exact rx_u0 (rx_is0 e1)
      · cases e2
    · cases hex
  | ifCond cd off => cases cd <;> (obtain ⟨x, r, -, rfl⟩ := rx_br1_inv hex; rfl)
  | if_icmp cd off => cases cd <;> (obtain ⟨x, y, r, -, rfl⟩ := rx_br2_inv hex; rfl)
  | if_acmp cd off =>
    cases cd <;>
    · unfold rx_ex at hex
      dsimp only at hex
      split at hex
      · split at hex
        · cases hex; rfl
        · cases hex
      · cases hex
  | iadd => obtain ⟨x, y, r, -, rfl⟩ := rx_i2_inv hex; rfl
  | isub => obtain ⟨x, y, r, -, rfl⟩ := rx_i2_inv hex; rfl
  | imul => obtain ⟨x, y, r, -, rfl⟩ := rx_i2_inv hex; rfl
  | iand => obtain ⟨x, y, r, -, rfl⟩ := rx_i2_inv hex; rfl
  | ior => obtain ⟨x, y, r, -, rfl⟩ := rx_i2_inv hex; rfl
  | ixor => obtain ⟨x, y, r, -, rfl⟩ := rx_i2_inv hex; rfl
  | ishl => obtain ⟨x, y, r, -, rfl⟩ := rx_i2_inv hex; rfl
  | ishr => obtain ⟨x, y, r, -, rfl⟩ := rx_i2_inv hex; rfl
  | ladd => obtain ⟨x, y, r, -, rfl⟩ := rx_l2_inv hex; rfl
  | lsub => obtain ⟨x, y, r, -, rfl⟩ := rx_l2_inv hex; rfl
  | lmul => obtain ⟨x, y, r, -, rfl⟩ := rx_l2_inv hex; rfl
  | land => obtain ⟨x, y, r, -, rfl⟩ := rx_l2_inv hex; rfl
  | lor => obtain ⟨x, y, r, -, rfl⟩ := rx_l2_inv hex; rfl
  | lxor => obtain ⟨x, y, r, -, rfl⟩ := rx_l2_inv hex; rfl
  | _ =>
    first
    | (cases hex; done)
    | (cases hex; rfl)
    | (unfold rx_ex at hex; dsimp only at hex; split at hex <;> first | (cases hex; done) | (cases hex; rfl) | (obtain ⟨-, e2⟩ := rx_bif hex; cases e2; rfl))
theorem rx_cpy_row0 {h : rx_H} {s d : Nat} {sp dp n : Int32} {a b c : Nat} (e : rx_cpo h s d sp dp n = true) : (rx_cpy h s d a b c).2.1 0 = h.2.1 0 := by
  have hd : ¬ 0 = d := by
    unfold rx_cpo at e
    simp only [Bool.and_eq_true] at e
    exact rx_blt0 e.1.1.1.1.1.1.1.1.1.2
  unfold rx_cpy
  cases Nat.beq (rx_kind h s) 15 with
  | true => rfl
  | false => exact rx_row0 hd
def rx_gr0 (h : rx_H) (q : (Option Value × rx_H) ⊕ rx_C) : Prop := match q with
  | .inl r => r.2 = h
  | .inr c => c.2.2.2.2.1 0 = h.2.1 0
theorem rx_one_row0 {call : Nat → List Value → rx_H → Option (Option Value × rx_H)} {m pc : Nat} {ls st : List Value} {h : rx_H} {q : (Option Value × rx_H) ⊕ rx_C} (hn : ¬ 0 = h.1.length) (hc : ∀ j as r, call j as h = some r → r.2.2.1 0 = h.2.1 0)
    (e : rx_one call m pc ls st h = some q) : rx_gr0 h q := by
  have hcl : ∀ j q, rx_cl call j pc ls st h = some q → rx_gr0 h q := by
    intro j q e
    unfold rx_cl at e
    obtain ⟨-, e⟩ := rx_bif e
    split at e
    · cases e
    · rename_i z hz; cases e; exact hc _ _ _ hz
  unfold rx_one at e
  split at e
  · cases e
  · split at e
    · split at e
      · obtain ⟨-, e⟩ := rx_bif e; cases e; rfl
      · cases e
    · split at e
      · obtain ⟨-, e⟩ := rx_bif e; cases e; rfl
      · cases e
    · split at e
      · obtain ⟨-, e⟩ := rx_bif e; cases e; rfl
      · obtain ⟨-, e⟩ := rx_bif e; cases e; rfl
      · cases e
    · split at e
      · obtain ⟨-, e⟩ := rx_bif e; cases e; rfl
      · cases e
    · exact hcl _ _ e
    · split at e
      · split at e
        · obtain ⟨-, e⟩ := rx_bif e; cases e; rfl
        · cases e
      · exact hcl _ _ e
    · split at e
      · split at e
        · obtain ⟨e1, e⟩ := rx_bif e
          rw [Bool.and_eq_true] at e1
          cases e
          exact rx_cpy_row0 e1.2
        · cases e
      · split at e
        · obtain ⟨-, e⟩ := rx_bif e; cases e; rfl
        · cases e
      · split at e
        · obtain ⟨-, e⟩ := rx_bif e; cases e; rfl
        · cases e
      · obtain ⟨-, e⟩ := rx_bif e; exact hcl _ _ e
    · split at e
      · cases e
      · rename_i hx; cases e; exact rx_ex_row0 hn hx
theorem rx_run_row0 : ∀ (n : Nat) {m pc : Nat} {ls st : List Value} {h : rx_H} {q : Option Value × rx_H}, ¬ 0 = h.1.length → rx_run n m pc ls st h = some q → q.2.2.1 0 = h.2.1 0
  | 0, _, _, _, _, _, _, _, e => by cases e
  | n + 1, m, pc, ls, st, h, q, hn, e => by
    rw [rx_run] at e
    split at e
    · cases e
    · rename_i r hr
      cases e
      have := rx_one_row0 hn (fun j as r hr => rx_run_row0 n hn hr) hr
      unfold rx_gr0 at this
      dsimp only at this
      rw [this]
    · rename_i c hc
      have h1 := rx_one_row0 hn (fun j as r hr => rx_run_row0 n hn hr) hc
      unfold rx_gr0 at h1
      dsimp only at h1
      have hm := rx_one_mono (fun j as g r hr => rx_mono n hr) hc
      unfold rx_grow at hm
      dsimp only at hm
      have h2 := rx_run_row0 n (h := c.2.2.2) (by omega) e
      rw [h2, h1]
theorem rx_aw_row0 {m pc : Nat} {ls st : List Value} {h : rx_H} {Q : Option Value → rx_H → Prop} (hn : ¬ 0 = h.1.length) (a : rx_aw m pc ls st h Q) : rx_aw m pc ls st h (fun r h2 => Q r h2 ∧ h2.2.1 0 = h.2.1 0) := by
  obtain ⟨n, r, h2, e, q⟩ := a
  exact ⟨n, r, h2, e, q, rx_run_row0 n hn e⟩
/-- the same for two calls, one behind the other -/
theorem cf_pr_0 {L : Nat} {t : List (Nat × Nat)} {a : Nat} {as : List Value} {hi : Nat → Nat → Int32} {hl : Nat → Nat → Int64} {v : Nat → Nat → Option Nat} {RI : Int32 → (Nat → Nat → Int32) → (Nat → Nat → Int64) → (Nat → Nat → Option Nat) → Prop} (c : rx_CI L t a as hi hl v RI) : rx_CI L t a as hi hl v (fun z hi2 hl2 v2 => RI z hi2 hl2 v2 ∧ ∀ b, hi2 0 b = hi 0 b) := by
  refine rx_aw.mono (rx_aw_row0 (by show ¬ 0 = (rx_sh L t).length; unfold rx_sh; simp) c) (fun r h2 k => ?_)
  obtain ⟨⟨z, rfl, hi2, hl2, v2, rfl, k⟩, e⟩ := k
  exact ⟨z, rfl, hi2, hl2, v2, rfl, k, fun b => congrFun e b⟩
