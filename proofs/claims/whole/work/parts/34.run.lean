/-! The run: shapes only grow; calls; the main theorem. -/
theorem rx_ex_shape {i : Instr} {pc : Nat} {ls st : List Value} {h : rx_H} {g : rx_C} (hex : rx_ex i pc ls st h = some g) : g.2.2.2.1 = h.1 ∨ ∃ t n, g.2.2.2 = rx_nw h t n := by
  cases i with
  | iload k => obtain ⟨x, -, rfl⟩ := rx_ild_inv hex; exact Or.inl rfl
  | iload_n k => obtain ⟨x, -, rfl⟩ := rx_ild_inv hex; exact Or.inl rfl
  | lload k => obtain ⟨x, -, rfl⟩ := rx_lld_inv hex; exact Or.inl rfl
  | lload_n k => obtain ⟨x, -, rfl⟩ := rx_lld_inv hex; exact Or.inl rfl
  | aload k => rcases rx_ald_inv hex with ⟨x, -, rfl⟩ | ⟨-, rfl⟩ <;> exact Or.inl rfl
  | aload_n k => rcases rx_ald_inv hex with ⟨x, -, rfl⟩ | ⟨-, rfl⟩ <;> exact Or.inl rfl
  | istore k => obtain ⟨x, r, -, -, rfl⟩ := rx_ist_inv hex; exact Or.inl rfl
  | istore_n k => obtain ⟨x, r, -, -, rfl⟩ := rx_ist_inv hex; exact Or.inl rfl
  | lstore k => obtain ⟨x, r, -, -, rfl⟩ := rx_lst_inv hex; exact Or.inl rfl
  | lstore_n k => obtain ⟨x, r, -, -, rfl⟩ := rx_lst_inv hex; exact Or.inl rfl
  | astore k => rcases rx_ast_inv hex with ⟨x, r, -, -, rfl⟩ | ⟨r, -, -, rfl⟩ <;> exact Or.inl rfl
  | astore_n k => rcases rx_ast_inv hex with ⟨x, r, -, -, rfl⟩ | ⟨r, -, -, rfl⟩ <;> exact Or.inl rfl
  | new c => cases hex; exact Or.inr ⟨_, _, rfl⟩
  | newarray a =>
    unfold rx_ex at hex
    dsimp only at hex
    split at hex
    · obtain ⟨-, e2⟩ := rx_bif hex; cases e2; exact Or.inr ⟨_, _, rfl⟩
    · cases hex
  | anewarray a =>
    unfold rx_ex at hex
    dsimp only at hex
    split at hex
    · obtain ⟨-, e2⟩ := rx_bif hex; cases e2; exact Or.inr ⟨_, _, rfl⟩
    · cases hex
  | bastore =>
    unfold rx_ex at hex
    dsimp only at hex
    split at hex
    · rename_i v x i r
      obtain ⟨-, e2⟩ := rx_bif hex
      cases e5 : Nat.beq (rx_kind h i) 13 with
      | true => rw [e5] at e2; cases e2; exact Or.inl rfl
      | false => rw [e5] at e2; obtain ⟨-, e3⟩ := rx_bif e2; cases e3; exact Or.inl rfl
    · cases hex
  | putfield f =>
    unfold rx_ex at hex
    dsimp only at hex
    split at hex
    · obtain ⟨-, e2⟩ := rx_bif hex
      split at e2
      · cases e2; exact Or.inl rfl
      · cases e2; exact Or.inl rfl
      · cases e2; exact Or.inl rfl
      · cases e2; exact Or.inl rfl
      · obtain ⟨-, e3⟩ := rx_bif e2; cases e3; exact Or.inl rfl
      · cases e2
    · cases hex
  | ifCond cd off => cases cd <;> (obtain ⟨x, r, -, rfl⟩ := rx_br1_inv hex; exact Or.inl rfl)
  | if_icmp cd off => cases cd <;> (obtain ⟨x, y, r, -, rfl⟩ := rx_br2_inv hex; exact Or.inl rfl)
  | if_acmp cd off =>
    cases cd <;>
    · unfold rx_ex at hex
      dsimp only at hex
      split at hex
      · split at hex
        · cases hex; exact Or.inl rfl
        · cases hex
      · cases hex
  | iadd => obtain ⟨x, y, r, -, rfl⟩ := rx_i2_inv hex; exact Or.inl rfl
  | isub => obtain ⟨x, y, r, -, rfl⟩ := rx_i2_inv hex; exact Or.inl rfl
  | imul => obtain ⟨x, y, r, -, rfl⟩ := rx_i2_inv hex; exact Or.inl rfl
  | iand => obtain ⟨x, y, r, -, rfl⟩ := rx_i2_inv hex; exact Or.inl rfl
  | ior => obtain ⟨x, y, r, -, rfl⟩ := rx_i2_inv hex; exact Or.inl rfl
  | ixor => obtain ⟨x, y, r, -, rfl⟩ := rx_i2_inv hex; exact Or.inl rfl
  | ishl => obtain ⟨x, y, r, -, rfl⟩ := rx_i2_inv hex; exact Or.inl rfl
  | ishr => obtain ⟨x, y, r, -, rfl⟩ := rx_i2_inv hex; exact Or.inl rfl
  | ladd => obtain ⟨x, y, r, -, rfl⟩ := rx_l2_inv hex; exact Or.inl rfl
  | lsub => obtain ⟨x, y, r, -, rfl⟩ := rx_l2_inv hex; exact Or.inl rfl
  | lmul => obtain ⟨x, y, r, -, rfl⟩ := rx_l2_inv hex; exact Or.inl rfl
  | land => obtain ⟨x, y, r, -, rfl⟩ := rx_l2_inv hex; exact Or.inl rfl
  | lor => obtain ⟨x, y, r, -, rfl⟩ := rx_l2_inv hex; exact Or.inl rfl
  | lxor => obtain ⟨x, y, r, -, rfl⟩ := rx_l2_inv hex; exact Or.inl rfl
  | _ =>
    first
    | (cases hex; done)
    | (cases hex; exact Or.inl rfl)
    | (unfold rx_ex at hex; dsimp only at hex; split at hex <;> first | (cases hex; done) | (cases hex; exact Or.inl rfl) | (obtain ⟨-, e2⟩ := rx_bif hex; cases e2; exact Or.inl rfl))
theorem rx_ex_mono {i : Instr} {pc : Nat} {ls st : List Value} {h : rx_H} {g : rx_C} (hex : rx_ex i pc ls st h = some g) : h.1.length ≤ g.2.2.2.1.length ∧ rx_us h ≤ rx_us g.2.2.2 := by
  rcases rx_ex_shape hex with e | ⟨t, n, e⟩
  · unfold rx_us; rw [e]; exact ⟨Nat.le_refl _, Nat.le_refl _⟩
  · rw [e, rx_us_nw]
    unfold rx_nw
    simp
theorem rx_cpy_sh (h : rx_H) (s d sp dp n : Nat) : (rx_cpy h s d sp dp n).1 = h.1 := by
  unfold rx_cpy
  cases Nat.beq (rx_kind h s) 15 <;> rfl
def rx_grow (h : rx_H) (q : (Option Value × rx_H) ⊕ rx_C) : Prop := match q with
  | .inl r => r.2 = h
  | .inr c => h.1.length ≤ c.2.2.2.1.length ∧ rx_us h ≤ rx_us c.2.2.2
theorem rx_one_mono {call : Nat → List Value → rx_H → Option (Option Value × rx_H)} {m pc : Nat} {ls st : List Value} {h : rx_H} {q : (Option Value × rx_H) ⊕ rx_C} (hc : ∀ j as g r, call j as g = some r → g.1.length ≤ r.2.1.length ∧ rx_us g ≤ rx_us r.2)
    (e : rx_one call m pc ls st h = some q) : rx_grow h q := by
  have hcl : ∀ j q, rx_cl call j pc ls st h = some q → rx_grow h q := by
    intro j q e
    unfold rx_cl at e
    obtain ⟨-, e⟩ := rx_bif e
    split at e
    · cases e
    · rename_i z hz; cases e; exact hc _ _ _ _ hz
  unfold rx_one at e
  split at e
  · cases e
  · split at e
    · split at e
      · obtain ⟨-, e⟩ := rx_bif e; cases e; rfl
      · cases e
    · split at e
      · obtain ⟨-, e⟩ := rx_bif e; cases e; rfl
      · cases e
    · split at e
      · obtain ⟨-, e⟩ := rx_bif e; cases e; rfl
      · obtain ⟨-, e⟩ := rx_bif e; cases e; rfl
      · cases e
    · split at e
      · obtain ⟨-, e⟩ := rx_bif e; cases e; rfl
      · cases e
    · exact hcl _ _ e
    · split at e
      · split at e
        · obtain ⟨-, e⟩ := rx_bif e; cases e; exact ⟨Nat.le_refl _, Nat.le_refl _⟩
        · cases e
      · exact hcl _ _ e
    · split at e
      · split at e
        · obtain ⟨-, e⟩ := rx_bif e; cases e; unfold rx_grow rx_us; dsimp only; rw [rx_cpy_sh]; exact ⟨Nat.le_refl _, Nat.le_refl _⟩
        · cases e
      · split at e
        · obtain ⟨-, e⟩ := rx_bif e; cases e; exact ⟨Nat.le_refl _, Nat.le_refl _⟩
        · cases e
      · split at e
        · obtain ⟨-, e⟩ := rx_bif e; cases e; exact ⟨Nat.le_refl _, Nat.le_refl _⟩
        · cases e
      · obtain ⟨-, e⟩ := rx_bif e; exact hcl _ _ e
    · split at e
      · cases e
      · rename_i hx; cases e; exact rx_ex_mono hx
theorem rx_mono : ∀ (n : Nat) {m pc : Nat} {ls st : List Value} {h : rx_H} {q : Option Value × rx_H}, rx_run n m pc ls st h = some q → h.1.length ≤ q.2.1.length ∧ rx_us h ≤ rx_us q.2
  | 0, _, _, _, _, _, _, e => by cases e
  | n + 1, m, pc, ls, st, h, q, e => by
    rw [rx_run] at e
    split at e
    · cases e
    · rename_i r hr
      cases e
      have := rx_one_mono (fun j as g r hr => rx_mono n hr) hr
      unfold rx_grow at this
      dsimp only at this
      rw [this]
      exact ⟨Nat.le_refl _, Nat.le_refl _⟩
    · rename_i c hc
      have h1 := rx_one_mono (fun j as g r hr => rx_mono n hr) hc
      have h2 := rx_mono n e
      unfold rx_grow at h1
      dsimp only at h1
      exact ⟨Nat.le_trans h1.1 h2.1, Nat.le_trans h1.2 h2.2⟩
