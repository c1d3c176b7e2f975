/-! A run doesn't mind what stands in places that hold nothing for it. -/
def rx_le : List Value → List Value → Prop
  | [], [] => True
  | a :: as, b :: bs => (rx_un a = true ∨ a = b) ∧ rx_le as bs
  | _, _ => False
theorem rx_le_rf : ∀ l : List Value, rx_le l l
  | [] => trivial
  | a :: as => ⟨Or.inr rfl, rx_le_rf as⟩
theorem rx_le_len : ∀ {a b : List Value}, rx_le a b → a.length = b.length
  | [], [], _ => rfl
  | _ :: _, _ :: _, h => by simp [rx_le_len h.2]
theorem rx_le_get : ∀ {a b : List Value} {i : Nat} {v : Value}, rx_le a b → a[i]? = some v → rx_un v = false → b[i]? = some v
  | [], [], i, v, _, h, _ => by simp at h
  | x :: as, y :: bs, 0, v, hl, h, hu => by
    have e : x = v := by simpa using h
    subst e
    rcases hl.1 with q | q
    · rw [hu] at q; cases q
    · subst q; rfl
  | x :: as, y :: bs, i + 1, v, hl, h, hu => by
    have h2 : as[i]? = some v := by simpa using h
    have := rx_le_get hl.2 h2 hu
    simpa using this
theorem rx_le_set : ∀ {a b : List Value} (i : Nat) (v : Value), rx_le a b → rx_le (a.set i v) (b.set i v)
  | [], [], _, _, _ => trivial
  | x :: as, y :: bs, 0, v, hl => ⟨Or.inr rfl, hl.2⟩
  | x :: as, y :: bs, i + 1, v, hl => ⟨hl.1, rx_le_set i v hl.2⟩
theorem rx_le_no : ∀ {a b : List Value} (i : Nat), rx_le a b → rx_le (a.set i rx_no) b
  | [], [], _, _ => trivial
  | x :: as, y :: bs, 0, hl => ⟨Or.inl rfl, hl.2⟩
  | x :: as, y :: bs, i + 1, hl => ⟨hl.1, rx_le_no i hl.2⟩
theorem rx_le_no2 : ∀ {a b : List Value} (i : Nat), rx_le a b → (∀ v, a[i]? = some v → rx_un v = true) → rx_le a (b.set i rx_no)
  | [], [], _, _, _ => trivial
  | x :: as, y :: bs, 0, hl, h => ⟨Or.inl (h x rfl), hl.2⟩
  | x :: as, y :: bs, i + 1, hl, h => ⟨hl.1, rx_le_no2 i hl.2 (fun v hv => h v (by simpa using hv))⟩
theorem rx_le_kl {a b : List Value} (i : Nat) (h : rx_le a b) : rx_le (rx_kl a i) (rx_kl b i) := by
  cases i with
  | zero => exact h
  | succ j =>
    unfold rx_kl
    dsimp only
    have hlen := rx_le_len h
    cases ha : a[j]? with
    | none =>
      have hb : b[j]? = none := by
        rw [List.getElem?_eq_none_iff] at ha ⊢
        omega
      rw [hb]
      exact h
    | some x =>
      dsimp only
      cases hb : b[j]? with
      | none =>
        exfalso
        have h1 := (List.getElem?_eq_some_iff.mp ha).1
        rw [List.getElem?_eq_none_iff] at hb
        omega
      | some y =>
        dsimp only
        by_cases hx : rx_un x = true
        · have hax : x.category ≠ 2 := by cases x <;> simp [rx_un] at hx; simp [Value.category]
          rw [if_neg hax]
          by_cases hy : y.category = 2
          · rw [if_pos hy]
            exact rx_le_no2 j h (fun v hv => by rw [ha] at hv; cases hv; exact hx)
          · rw [if_neg hy]; exact h
        · have hxy := rx_le_get h ha (by simpa using hx)
          rw [hb] at hxy
          cases hxy
          by_cases hy : x.category = 2
          · rw [if_pos hy, if_pos hy]; exact rx_le_set j _ h
          · rw [if_neg hy, if_neg hy]; exact h
theorem rx_le_st1 {a b : List Value} (i : Nat) (v : Value) (h : rx_le a b) : rx_le (rx_st1 a i v) (rx_st1 b i v) := rx_le_set i v (rx_le_kl i h)
theorem rx_le_st2 {a b : List Value} (i : Nat) (v : Value) (h : rx_le a b) : rx_le (rx_st2 a i v) (rx_st2 b i v) := rx_le_set (i + 1) _ (rx_le_set i v (rx_le_kl i h))
theorem rx_ist_fw {pc i n : Nat} {ls r : List Value} {h : rx_H} {x : Int32} (hi : i < ls.length) : rx_ist pc i n ls (.int x :: r) h = some (pc + n, rx_st1 ls i (.int x), r, h) := by
  unfold rx_ist; dsimp only; rw [show Nat.blt i ls.length = true from Nat.ble_eq_true_of_le hi]; rfl
theorem rx_lst_fw {pc i n : Nat} {ls r : List Value} {h : rx_H} {x : Int64} (hi : i + 1 < ls.length) : rx_lst pc i n ls (.long x :: r) h = some (pc + n, rx_st2 ls i (.long x), r, h) := by
  unfold rx_lst; dsimp only; rw [show Nat.blt (i + 1) ls.length = true from Nat.ble_eq_true_of_le hi]; rfl
theorem rx_ast_fw {pc i n : Nat} {ls r : List Value} {h : rx_H} {x : Nat} (hi : i < ls.length) : rx_ast pc i n ls (.ref x :: r) h = some (pc + n, rx_st1 ls i (.ref x), r, h) := by
  unfold rx_ast; dsimp only; rw [show Nat.blt i ls.length = true from Nat.ble_eq_true_of_le hi]; rfl
theorem rx_astN_fw {pc i n : Nat} {ls r : List Value} {h : rx_H} (hi : i < ls.length) : rx_ast pc i n ls (.null :: r) h = some (pc + n, rx_st1 ls i .null, r, h) := by
  unfold rx_ast; dsimp only; rw [show Nat.blt i ls.length = true from Nat.ble_eq_true_of_le hi]; rfl
theorem rx_ild_fw {pc i n : Nat} {ls st : List Value} {h : rx_H} {x : Int32} (hi : ls[i]? = some (.int x)) : rx_ild pc i n ls st h = some (pc + n, ls, .int x :: st, h) := by
  unfold rx_ild; rw [hi]
theorem rx_lld_fw {pc i n : Nat} {ls st : List Value} {h : rx_H} {x : Int64} (hi : ls[i]? = some (.long x)) : rx_lld pc i n ls st h = some (pc + n, ls, .long x :: st, h) := by
  unfold rx_lld; rw [hi]
theorem rx_ald_fw {pc i n : Nat} {ls st : List Value} {h : rx_H} {x : Nat} (hi : ls[i]? = some (.ref x)) : rx_ald pc i n ls st h = some (pc + n, ls, .ref x :: st, h) := by
  unfold rx_ald; rw [hi]
theorem rx_aldN_fw {pc i n : Nat} {ls st : List Value} {h : rx_H} (hi : ls[i]? = some .null) : rx_ald pc i n ls st h = some (pc + n, ls, .null :: st, h) := by
  unfold rx_ald; rw [hi]
/-- which instructions look at the locals -/
def rx_loc (i : Instr) : Bool := match i with
  | .iload _ => true
  | .iload_n _ => true
  | .lload _ => true
  | .lload_n _ => true
  | .aload _ => true
  | .aload_n _ => true
  | .istore _ => true
  | .istore_n _ => true
  | .lstore _ => true
  | .lstore_n _ => true
  | .astore _ => true
  | .astore_n _ => true
  | .iinc _ _ => true
  | _ => false
def rx_put (l : List Value) (c : Option rx_C) : Option rx_C := c.map (fun g => (g.1, l, g.2.2.1, g.2.2.2))
theorem rx_put_bif (l : List Value) (b : Bool) (x : Option rx_C) : rx_put l (bif b then x else none) = bif b then rx_put l x else none := by cases b <;> rfl
theorem rx_ex_pass {i : Instr} (hi : rx_loc i = false) (pc : Nat) (ls ls2 st : List Value) (h : rx_H) : rx_ex i pc ls2 st h = rx_put ls2 (rx_ex i pc ls st h) := by
  cases i with
  | iload k => cases hi
  | iload_n k => cases hi
  | lload k => cases hi
  | lload_n k => cases hi
  | aload k => cases hi
  | aload_n k => cases hi
  | istore k => cases hi
  | istore_n k => cases hi
  | lstore k => cases hi
  | lstore_n k => cases hi
  | astore k => cases hi
  | astore_n k => cases hi
  | iinc k n => cases hi
  | ifCond cd off => cases cd <;> (unfold rx_ex rx_br1; dsimp only; split <;> rfl)
  | if_icmp cd off => cases cd <;> (unfold rx_ex rx_br2; dsimp only; split <;> rfl)
  | if_acmp cd off =>
    cases cd <;>
    · unfold rx_ex
      dsimp only
      split
      · split <;> rfl
      · rfl
  | putfield f =>
    unfold rx_ex
    dsimp only
    split
    · rw [rx_put_bif]
      split
      · rfl
      · rfl
      · rfl
      · rfl
      · rw [rx_put_bif]; rfl
      · rfl
    · rfl
  | bastore =>
    unfold rx_ex
    dsimp only
    split
    · rw [rx_put_bif]
      congr 1
      rename_i v x i r
      cases Nat.beq (rx_kind h i) 13
      · rw [cond_false, cond_false, rx_put_bif]; rfl
      · rfl
    · rfl
  | _ => first
    | rfl
    | (unfold rx_ex rx_i2; dsimp only; split <;> rfl)
    | (unfold rx_ex rx_l2; dsimp only; split <;> rfl)
    | (unfold rx_ex; dsimp only; split <;> first | rfl | (rw [rx_put_bif]; rfl))
/-- the step of an instruction over more locals -/
theorem rx_ex_le {i : Instr} {pc : Nat} {ls ls2 st : List Value} {h : rx_H} {g : rx_C} (hl : rx_le ls ls2) (hex : rx_ex i pc ls st h = some g) : ∃ l, rx_le g.2.1 l ∧ rx_ex i pc ls2 st h = some (g.1, l, g.2.2.1, g.2.2.2) := by
  have hlen := rx_le_len hl
  cases hloc : rx_loc i with
  | false =>
    have h1 := rx_ex_pass hloc pc ls ls st h
    have h2 := rx_ex_pass hloc pc ls ls2 st h
    rw [hex] at h1 h2
    have h3 : g.2.1 = ls := by
      unfold rx_put at h1
      have := Option.some.inj h1
      rw [this]
    exact ⟨ls2, by rw [h3]; exact hl, h2⟩
  | true =>
  cases i with
  | iload k => obtain ⟨x, h1, rfl⟩ := rx_ild_inv hex; exact ⟨ls2, hl, rx_ild_fw (rx_le_get hl h1 rfl)⟩
  | iload_n k => obtain ⟨x, h1, rfl⟩ := rx_ild_inv hex; exact ⟨ls2, hl, rx_ild_fw (rx_le_get hl h1 rfl)⟩
  | lload k => obtain ⟨x, h1, rfl⟩ := rx_lld_inv hex; exact ⟨ls2, hl, rx_lld_fw (rx_le_get hl h1 rfl)⟩
  | lload_n k => obtain ⟨x, h1, rfl⟩ := rx_lld_inv hex; exact ⟨ls2, hl, rx_lld_fw (rx_le_get hl h1 rfl)⟩
  | aload k =>
    rcases rx_ald_inv hex with ⟨x, h1, rfl⟩ | ⟨h1, rfl⟩
    · exact ⟨ls2, hl, rx_ald_fw (rx_le_get hl h1 rfl)⟩
    · exact ⟨ls2, hl, rx_aldN_fw (rx_le_get hl h1 rfl)⟩
  | aload_n k =>
    rcases rx_ald_inv hex with ⟨x, h1, rfl⟩ | ⟨h1, rfl⟩
    · exact ⟨ls2, hl, rx_ald_fw (rx_le_get hl h1 rfl)⟩
    · exact ⟨ls2, hl, rx_aldN_fw (rx_le_get hl h1 rfl)⟩
  | istore k => obtain ⟨x, r, rfl, h1, rfl⟩ := rx_ist_inv hex; exact ⟨_, rx_le_st1 k _ hl, rx_ist_fw (by omega)⟩
  | istore_n k => obtain ⟨x, r, rfl, h1, rfl⟩ := rx_ist_inv hex; exact ⟨_, rx_le_st1 k.val _ hl, rx_ist_fw (by omega)⟩
  | lstore k => obtain ⟨x, r, rfl, h1, rfl⟩ := rx_lst_inv hex; exact ⟨_, rx_le_st2 k _ hl, rx_lst_fw (by omega)⟩
  | lstore_n k => obtain ⟨x, r, rfl, h1, rfl⟩ := rx_lst_inv hex; exact ⟨_, rx_le_st2 k.val _ hl, rx_lst_fw (by omega)⟩
  | astore k =>
    rcases rx_ast_inv hex with ⟨x, r, rfl, h1, rfl⟩ | ⟨r, rfl, h1, rfl⟩
    · exact ⟨_, rx_le_st1 k _ hl, rx_ast_fw (by omega)⟩
    · exact ⟨_, rx_le_st1 k _ hl, rx_astN_fw (by omega)⟩
  | astore_n k =>
    rcases rx_ast_inv hex with ⟨x, r, rfl, h1, rfl⟩ | ⟨r, rfl, h1, rfl⟩
    · exact ⟨_, rx_le_st1 k.val _ hl, rx_ast_fw (by omega)⟩
    · exact ⟨_, rx_le_st1 k.val _ hl, rx_astN_fw (by omega)⟩
  | iinc k n =>
    change (match ls[k]? with | some (.int x) => some (pc + 3, rx_st1 ls k (.int (x + Int32.ofInt n)), st, h) | _ => none) = some g at hex
    split at hex
    · rename_i x hi
      cases hex
      refine ⟨_, rx_le_st1 k _ hl, ?_⟩
      show (match ls2[k]? with | some (.int x) => some (pc + 3, rx_st1 ls2 k (.int (x + Int32.ofInt n)), st, h) | _ => none) = _
      rw [rx_le_get hl hi rfl]
    · cases hex
  | _ => cases hloc
theorem rx_cl_le {call : Nat → List Value → rx_H → Option (Option Value × rx_H)} {j pc : Nat} {ls ls2 st : List Value} {h : rx_H} {c : rx_C} (hl : rx_le ls ls2) (e : rx_cl call j pc ls st h = some (.inr c)) : ∃ l, rx_le c.2.1 l ∧ rx_cl call j pc ls2 st h = some (.inr (c.1, l, c.2.2.1, c.2.2.2)) := by
  unfold rx_cl at e ⊢
  obtain ⟨e1, e⟩ := rx_bif e
  rw [e1]
  split at e
  · cases e
  · rename_i q hq
    cases e
    exact ⟨ls2, hl, rfl⟩
theorem rx_one_le {call : Nat → List Value → rx_H → Option (Option Value × rx_H)} {m pc : Nat} {ls ls2 st : List Value} {h : rx_H} {c : rx_C} (hl : rx_le ls ls2) (e : rx_one call m pc ls st h = some (.inr c)) : ∃ l, rx_le c.2.1 l ∧ rx_one call m pc ls2 st h = some (.inr (c.1, l, c.2.2.1, c.2.2.2)) := by
  unfold rx_one at e ⊢
  split at e
  · cases e
  · split at e
    · split at e
      · obtain ⟨-, e⟩ := rx_bif e; cases e
      · cases e
    · split at e
      · obtain ⟨-, e⟩ := rx_bif e; cases e
      · cases e
    · split at e
      · obtain ⟨-, e⟩ := rx_bif e; cases e
      · obtain ⟨-, e⟩ := rx_bif e; cases e
      · cases e
    · split at e
      · obtain ⟨-, e⟩ := rx_bif e; cases e
      · cases e
    · exact rx_cl_le hl e
    · split at e
      · split at e
        · obtain ⟨e1, e⟩ := rx_bif e; cases e; exact ⟨ls2, hl, by rw [e1]; rfl⟩
        · cases e
      · exact rx_cl_le hl e
    · split at e
      · split at e
        · obtain ⟨e1, e⟩ := rx_bif e; cases e; exact ⟨ls2, hl, by rw [e1]; rfl⟩
        · cases e
      · split at e
        · obtain ⟨e1, e⟩ := rx_bif e; cases e; exact ⟨ls2, hl, by rw [e1]; rfl⟩
        · cases e
      · split at e
        · obtain ⟨e1, e⟩ := rx_bif e; cases e; exact ⟨ls2, hl, by rw [e1]; rfl⟩
        · cases e
      · obtain ⟨e1, e⟩ := rx_bif e
        rw [e1]
        exact rx_cl_le hl e
    · split at e
      · cases e
      · rename_i hx
        cases e
        obtain ⟨l, h1, h2⟩ := rx_ex_le hl hx
        exact ⟨l, h1, by rw [h2]⟩
theorem rx_one_le2 {call : Nat → List Value → rx_H → Option (Option Value × rx_H)} {m pc : Nat} {ls ls2 st : List Value} {h : rx_H} {q : Option Value × rx_H} (e : rx_one call m pc ls st h = some (.inl q)) : rx_one call m pc ls2 st h = some (.inl q) := by
  obtain ⟨i, hP, hisr, hq⟩ := rx_one_inl e
  unfold rx_one at e ⊢
  rw [hP] at e ⊢
  rcases hisr with ⟨rfl, v, rfl, -, -⟩ | ⟨rfl, v, rfl, -, -⟩ | ⟨rfl, v, rfl, -, hv, -⟩ | ⟨rfl, rfl, -, -⟩
  · exact e
  · exact e
  · rcases hv with rfl | ⟨a, rfl⟩ <;> exact e
  · exact e
theorem rx_run_le : ∀ (n : Nat) {m pc : Nat} {ls ls2 st : List Value} {h : rx_H} {q : Option Value × rx_H}, rx_le ls ls2 → rx_run n m pc ls st h = some q → rx_run n m pc ls2 st h = some q
  | 0, _, _, _, _, _, _, _, _, e => by cases e
  | n + 1, m, pc, ls, ls2, st, h, q, hl, e => by
    rw [rx_run] at e ⊢
    split at e
    · cases e
    · rename_i r hr
      rw [rx_one_le2 hr]
      exact e
    · rename_i c hc
      obtain ⟨l, h1, h2⟩ := rx_one_le hl hc
      rw [h2]
      exact rx_run_le n h1 e
theorem rx_aw_le {m pc : Nat} {ls ls2 st : List Value} {h : rx_H} {Q : Option Value → rx_H → Prop} (hl : rx_le ls ls2) (k : rx_aw m pc ls st h Q) : rx_aw m pc ls2 st h Q := by
  obtain ⟨n, r, h2, e, q⟩ := k
  exact ⟨n, r, h2, rx_run_le n hl e, q⟩
