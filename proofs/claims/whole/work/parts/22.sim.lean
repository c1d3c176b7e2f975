/-! One step: the machine goes where the small machine goes. -/
/-- from a state of the small machine on: whatever machine state agrees with it comes to Q -/
def rx_K (p : Program) (l : Launch) (e : Env) (R : Room) (s : State) (m : MethodId) (args : Array Value) (below : List Frame) (meth : Method) (c : Code) (Q : State → Prop) (D : va_G) (dA : Nat → ClassId) (b base c0 s0 nL : Nat) (g : rx_C) : Prop :=
  ∀ (H : Heap) (locs : List Loc) (cells slots : Nat) (lc : Array Slot), rx_rel D dA b base s g.2.2.2 H → va_S (fun q => base ≤ q) s.heap H locs → lv_has lc nL (rx_al (rx_mv (rx_ad b base)) g.2.1) → g.2.1.length = nL → cells + c0 = g.2.2.2.1.length → slots + s0 = rx_us g.2.2.2 →
    W p l e R s m args below meth c H locs cells slots Q (F0 m g.1 lc (g.2.2.1.map (rx_mv (rx_ad b base))))
/-- what holds within method j -/
def rx_at (j : Nat) (p : Program) (R : Room) (s : State) (m : MethodId) (args : Array Value) (meth : Method) (c : Code) (base c0 nL : Nat) : Prop :=
  p.tables.exec = Jvm.exec ∧ c.code = (rx_m j).2.1 ∧ c.maxLocals = nL ∧ s.vm.findClass (rx_own (rx_m j).2.2.2.2.2.2.1) = some m.cls ∧ (∀ w ∈ rx_tb, w.before args s = true) ∧ (rx_m j).2.2.2.2.2.2.2.1 ≤ R.frames ∧ (rx_m j).2.2.2.2.2.2.2.2 ≤ R.locals ∧ (Nat.beq (rx_m j).2.2.2.2.2.1 2 = true → meth.name = "<init>") ∧ s.heap.size + 1 = base + c0 ∧ base ≤ s.heap.size
theorem rx_cs_len : rx_cs.length = 246 := by decide +kernel
theorem rx_find_mem : ∀ {t : List (Nat × Instr)} {pc : Nat} {i : Instr}, rx_find t pc = some i → (pc, i) ∈ t
  | (q, x) :: t, pc, i, h => by
    unfold rx_find at h
    cases hb : Nat.beq q pc with
    | true =>
      rw [hb] at h
      have e : q = pc := Nat.eq_of_beq_eq_true hb
      cases h
      rw [e]
      exact List.mem_cons_self
    | false =>
      rw [hb] at h
      exact List.mem_cons_of_mem _ (rx_find_mem h)
theorem rx_P_mem {j pc : Nat} {i : Instr} (h : rx_P j pc = some i) : j < 246 ∧ (pc, i) ∈ rx_cs.getD j [] := by
  unfold rx_P at h
  have hm := rx_find_mem h
  refine ⟨?_, hm⟩
  rcases Nat.lt_or_ge j 246 with g | g
  · exact g
  · rw [List.getD_eq_getElem?_getD, List.getElem?_eq_none (by rw [rx_cs_len]; exact g)] at hm
    exact absurd hm List.not_mem_nil
theorem rx_P_ok {j pc : Nat} {i : Instr} (h : rx_P j pc = some i) : rx_chk (rx_m j).2.2.2.2.2.2.1 (rx_m j).2.1 (pc, i) = true ∧ rx_fit j (pc, i) = true := by
  obtain ⟨hj, hm⟩ := rx_P_mem h
  have h1 := List.all_eq_true.mp (rx_ok j hj) _ hm
  rw [Bool.and_eq_true] at h1
  exact h1
theorem rx_dec {ct pc : Nat} {cc : ByteArray} {a : Instr} (h : rx_chk ct cc (pc, a) = true) : ∃ (i : Instr) (n : Nat), decode cc pc = .ok (i, n) ∧ rx_lk ct i a = true ∧ (rx_sw a = true ∨ n = rx_ln a) ∧ rx_tg pc a = true := by
  unfold rx_chk at h
  cases hd : decode cc pc with
  | error x => simp [hd] at h
  | ok q =>
    obtain ⟨i, n⟩ := q
    simp only [hd, Bool.and_eq_true, Bool.or_eq_true] at h
    refine ⟨i, n, rfl, h.1.1, ?_, h.2⟩
    rcases h.1.2 with g | g
    · exact Or.inl g
    · exact Or.inr (Nat.eq_of_beq_eq_true g)
theorem rx_dec1 {ct pc : Nat} {cc : ByteArray} {a : Instr} (h : rx_chk ct cc (pc, a) = true) (hp : ∀ i, rx_lk ct i a = decide (i = a)) (hs : rx_sw a = false) : decode cc pc = .ok (a, rx_ln a) := by
  obtain ⟨i, n, h1, h2, h3, -⟩ := rx_dec h
  rw [hp] at h2
  have e := of_decide_eq_true h2
  subst e
  rcases h3 with g | g
  · rw [hs] at g; cases g
  · rw [h1, g]
theorem rx_tgt {pc : Nat} {off : Int} (h : 0 ≤ (pc : Int) + off) : (pc : Int) + off = ((rx_to pc off : Nat) : Int) := by
  unfold rx_to
  omega
section RXS
variable {p : Program} {l : Launch} {e : Env} {R : Room} {s : State} {m : MethodId} {args : Array Value} {below : List Frame} {meth : Method} {c : Code} {Q : State → Prop} {D : va_G} {dA : Nat → ClassId} {b base c0 s0 nL : Nat}
theorem rx_s_iload {j pc : Nat} {ls st : List Value} {h : rx_H} {i : Nat} {x : Int32} (hi : ls[i]? = some (.int x)) (C : rx_at j p R s m args meth c base c0 nL) (hP : rx_P j pc = some (.iload i)) (k : rx_K p l e R s m args below meth c Q D dA b base c0 s0 nL (pc + 2, ls, .int x :: st, h)) : rx_K p l e R s m args below meth c Q D dA b base c0 s0 nL (pc, ls, st, h) := by
  obtain ⟨hx, hb, hml, hown, hts, hfr, hlo, hin, hz, hbz⟩ := C
  have hk := (rx_P_ok hP).1
  intro H locs cells slots lc hr hS hl hn hc hs
  subst hn
  exact lv_iload hx hb (rx_dec1 hk (fun _ => rfl) rfl) (rx_get hl hi rfl) (k H locs cells slots lc hr hS hl rfl hc hs)
theorem rx_s_iload_n {j pc : Nat} {ls st : List Value} {h : rx_H} {i : Fin 4} {x : Int32} (hi : ls[i.val]? = some (.int x)) (C : rx_at j p R s m args meth c base c0 nL) (hP : rx_P j pc = some (.iload_n i)) (k : rx_K p l e R s m args below meth c Q D dA b base c0 s0 nL (pc + 1, ls, .int x :: st, h)) : rx_K p l e R s m args below meth c Q D dA b base c0 s0 nL (pc, ls, st, h) := by
  obtain ⟨hx, hb, hml, hown, hts, hfr, hlo, hin, hz, hbz⟩ := C
  have hk := (rx_P_ok hP).1
  intro H locs cells slots lc hr hS hl hn hc hs
  subst hn
  exact lv_iload_n hx hb (rx_dec1 hk (fun _ => rfl) rfl) rfl (rx_get hl hi rfl) (k H locs cells slots lc hr hS hl rfl hc hs)
theorem rx_s_lload {j pc : Nat} {ls st : List Value} {h : rx_H} {i : Nat} {x : Int64} (hi : ls[i]? = some (.long x)) (C : rx_at j p R s m args meth c base c0 nL) (hP : rx_P j pc = some (.lload i)) (k : rx_K p l e R s m args below meth c Q D dA b base c0 s0 nL (pc + 2, ls, .long x :: st, h)) : rx_K p l e R s m args below meth c Q D dA b base c0 s0 nL (pc, ls, st, h) := by
  obtain ⟨hx, hb, hml, hown, hts, hfr, hlo, hin, hz, hbz⟩ := C
  have hk := (rx_P_ok hP).1
  intro H locs cells slots lc hr hS hl hn hc hs
  subst hn
  exact lv_lload hx hb (rx_dec1 hk (fun _ => rfl) rfl) (rx_get hl hi rfl) (k H locs cells slots lc hr hS hl rfl hc hs)
theorem rx_s_lload_n {j pc : Nat} {ls st : List Value} {h : rx_H} {i : Fin 4} {x : Int64} (hi : ls[i.val]? = some (.long x)) (C : rx_at j p R s m args meth c base c0 nL) (hP : rx_P j pc = some (.lload_n i)) (k : rx_K p l e R s m args below meth c Q D dA b base c0 s0 nL (pc + 1, ls, .long x :: st, h)) : rx_K p l e R s m args below meth c Q D dA b base c0 s0 nL (pc, ls, st, h) := by
  obtain ⟨hx, hb, hml, hown, hts, hfr, hlo, hin, hz, hbz⟩ := C
  have hk := (rx_P_ok hP).1
  intro H locs cells slots lc hr hS hl hn hc hs
  subst hn
  exact lv_lload_n hx hb (rx_dec1 hk (fun _ => rfl) rfl) rfl (rx_get hl hi rfl) (k H locs cells slots lc hr hS hl rfl hc hs)
theorem rx_s_aload {j pc : Nat} {ls st : List Value} {h : rx_H} {i x : Nat} (hi : ls[i]? = some (.ref x)) (C : rx_at j p R s m args meth c base c0 nL) (hP : rx_P j pc = some (.aload i)) (k : rx_K p l e R s m args below meth c Q D dA b base c0 s0 nL (pc + 2, ls, .ref x :: st, h)) : rx_K p l e R s m args below meth c Q D dA b base c0 s0 nL (pc, ls, st, h) := by
  obtain ⟨hx, hb, hml, hown, hts, hfr, hlo, hin, hz, hbz⟩ := C
  have hk := (rx_P_ok hP).1
  intro H locs cells slots lc hr hS hl hn hc hs
  subst hn
  exact lv_aload hx hb (rx_dec1 hk (fun _ => rfl) rfl) (rx_get hl hi rfl) (k H locs cells slots lc hr hS hl rfl hc hs)
theorem rx_s_aload_n {j pc : Nat} {ls st : List Value} {h : rx_H} {i : Fin 4} {x : Nat} (hi : ls[i.val]? = some (.ref x)) (C : rx_at j p R s m args meth c base c0 nL) (hP : rx_P j pc = some (.aload_n i)) (k : rx_K p l e R s m args below meth c Q D dA b base c0 s0 nL (pc + 1, ls, .ref x :: st, h)) : rx_K p l e R s m args below meth c Q D dA b base c0 s0 nL (pc, ls, st, h) := by
  obtain ⟨hx, hb, hml, hown, hts, hfr, hlo, hin, hz, hbz⟩ := C
  have hk := (rx_P_ok hP).1
  intro H locs cells slots lc hr hS hl hn hc hs
  subst hn
  exact lv_aload_n hx hb (rx_dec1 hk (fun _ => rfl) rfl) rfl (rx_get hl hi rfl) (k H locs cells slots lc hr hS hl rfl hc hs)
theorem rx_s_aloadN {j pc : Nat} {ls st : List Value} {h : rx_H} {i : Nat} (hi : ls[i]? = some .null) (C : rx_at j p R s m args meth c base c0 nL) (hP : rx_P j pc = some (.aload i)) (k : rx_K p l e R s m args below meth c Q D dA b base c0 s0 nL (pc + 2, ls, .null :: st, h)) : rx_K p l e R s m args below meth c Q D dA b base c0 s0 nL (pc, ls, st, h) := by
  obtain ⟨hx, hb, hml, hown, hts, hfr, hlo, hin, hz, hbz⟩ := C
  have hk := (rx_P_ok hP).1
  intro H locs cells slots lc hr hS hl hn hc hs
  subst hn
  exact lv_aloadN hx hb (rx_dec1 hk (fun _ => rfl) rfl) (rx_get hl hi rfl) (k H locs cells slots lc hr hS hl rfl hc hs)
theorem rx_s_aload_nN {j pc : Nat} {ls st : List Value} {h : rx_H} {i : Fin 4} (hi : ls[i.val]? = some .null) (C : rx_at j p R s m args meth c base c0 nL) (hP : rx_P j pc = some (.aload_n i)) (k : rx_K p l e R s m args below meth c Q D dA b base c0 s0 nL (pc + 1, ls, .null :: st, h)) : rx_K p l e R s m args below meth c Q D dA b base c0 s0 nL (pc, ls, st, h) := by
  obtain ⟨hx, hb, hml, hown, hts, hfr, hlo, hin, hz, hbz⟩ := C
  have hk := (rx_P_ok hP).1
  intro H locs cells slots lc hr hS hl hn hc hs
  subst hn
  exact lv_aload_nN hx hb (rx_dec1 hk (fun _ => rfl) rfl) rfl (rx_get hl hi rfl) (k H locs cells slots lc hr hS hl rfl hc hs)
theorem rx_s_istore {j pc : Nat} {ls st : List Value} {h : rx_H} {i : Nat} {x : Int32} (hi : i < ls.length) (C : rx_at j p R s m args meth c base c0 nL) (hP : rx_P j pc = some (.istore i)) (k : rx_K p l e R s m args below meth c Q D dA b base c0 s0 nL (pc + 2, rx_st1 ls i (.int x), st, h)) : rx_K p l e R s m args below meth c Q D dA b base c0 s0 nL (pc, ls, .int x :: st, h) := by
  obtain ⟨hx, hb, hml, hown, hts, hfr, hlo, hin, hz, hbz⟩ := C
  have hk := (rx_P_ok hP).1
  intro H locs cells slots lc hr hS hl hn hc hs
  subst hn
  exact lv_istore hx hb (rx_dec1 hk (fun _ => rfl) rfl) hl hi rfl (fun lc2 hl2 => k H locs cells slots lc2 hr hS (rx_al_st1 (v := .int x) hi hl2) (rx_st1_len ls i _) hc hs)
theorem rx_s_istore_n {j pc : Nat} {ls st : List Value} {h : rx_H} {i : Fin 4} {x : Int32} (hi : i.val < ls.length) (C : rx_at j p R s m args meth c base c0 nL) (hP : rx_P j pc = some (.istore_n i)) (k : rx_K p l e R s m args below meth c Q D dA b base c0 s0 nL (pc + 1, rx_st1 ls i.val (.int x), st, h)) : rx_K p l e R s m args below meth c Q D dA b base c0 s0 nL (pc, ls, .int x :: st, h) := by
  obtain ⟨hx, hb, hml, hown, hts, hfr, hlo, hin, hz, hbz⟩ := C
  have hk := (rx_P_ok hP).1
  intro H locs cells slots lc hr hS hl hn hc hs
  subst hn
  exact lv_istore_n hx hb (rx_dec1 hk (fun _ => rfl) rfl) rfl hl hi rfl (fun lc2 hl2 => k H locs cells slots lc2 hr hS (rx_al_st1 (v := .int x) hi hl2) (rx_st1_len ls i.val _) hc hs)
theorem rx_s_lstore {j pc : Nat} {ls st : List Value} {h : rx_H} {i : Nat} {x : Int64} (hi : i + 1 < ls.length) (C : rx_at j p R s m args meth c base c0 nL) (hP : rx_P j pc = some (.lstore i)) (k : rx_K p l e R s m args below meth c Q D dA b base c0 s0 nL (pc + 2, rx_st2 ls i (.long x), st, h)) : rx_K p l e R s m args below meth c Q D dA b base c0 s0 nL (pc, ls, .long x :: st, h) := by
  obtain ⟨hx, hb, hml, hown, hts, hfr, hlo, hin, hz, hbz⟩ := C
  have hk := (rx_P_ok hP).1
  intro H locs cells slots lc hr hS hl hn hc hs
  subst hn
  exact lv_lstore hx hb (rx_dec1 hk (fun _ => rfl) rfl) hl hi rfl (fun lc2 hl2 => k H locs cells slots lc2 hr hS (rx_al_st2 (v := .long x) hi hl2) (rx_st2_len ls i _) hc hs)
theorem rx_s_lstore_n {j pc : Nat} {ls st : List Value} {h : rx_H} {i : Fin 4} {x : Int64} (hi : i.val + 1 < ls.length) (C : rx_at j p R s m args meth c base c0 nL) (hP : rx_P j pc = some (.lstore_n i)) (k : rx_K p l e R s m args below meth c Q D dA b base c0 s0 nL (pc + 1, rx_st2 ls i.val (.long x), st, h)) : rx_K p l e R s m args below meth c Q D dA b base c0 s0 nL (pc, ls, .long x :: st, h) := by
  obtain ⟨hx, hb, hml, hown, hts, hfr, hlo, hin, hz, hbz⟩ := C
  have hk := (rx_P_ok hP).1
  intro H locs cells slots lc hr hS hl hn hc hs
  subst hn
  exact lv_lstore_n hx hb (rx_dec1 hk (fun _ => rfl) rfl) rfl hl hi rfl (fun lc2 hl2 => k H locs cells slots lc2 hr hS (rx_al_st2 (v := .long x) hi hl2) (rx_st2_len ls i.val _) hc hs)
theorem rx_s_astore {j pc : Nat} {ls st : List Value} {h : rx_H} {i x : Nat} (hi : i < ls.length) (C : rx_at j p R s m args meth c base c0 nL) (hP : rx_P j pc = some (.astore i)) (k : rx_K p l e R s m args below meth c Q D dA b base c0 s0 nL (pc + 2, rx_st1 ls i (.ref x), st, h)) : rx_K p l e R s m args below meth c Q D dA b base c0 s0 nL (pc, ls, .ref x :: st, h) := by
  obtain ⟨hx, hb, hml, hown, hts, hfr, hlo, hin, hz, hbz⟩ := C
  have hk := (rx_P_ok hP).1
  intro H locs cells slots lc hr hS hl hn hc hs
  subst hn
  exact lv_astore hx hb (rx_dec1 hk (fun _ => rfl) rfl) hl hi rfl (fun lc2 hl2 => k H locs cells slots lc2 hr hS (rx_al_st1 (v := .ref x) hi hl2) (rx_st1_len ls i _) hc hs)
theorem rx_s_astore_n {j pc : Nat} {ls st : List Value} {h : rx_H} {i : Fin 4} {x : Nat} (hi : i.val < ls.length) (C : rx_at j p R s m args meth c base c0 nL) (hP : rx_P j pc = some (.astore_n i)) (k : rx_K p l e R s m args below meth c Q D dA b base c0 s0 nL (pc + 1, rx_st1 ls i.val (.ref x), st, h)) : rx_K p l e R s m args below meth c Q D dA b base c0 s0 nL (pc, ls, .ref x :: st, h) := by
  obtain ⟨hx, hb, hml, hown, hts, hfr, hlo, hin, hz, hbz⟩ := C
  have hk := (rx_P_ok hP).1
  intro H locs cells slots lc hr hS hl hn hc hs
  subst hn
  exact lv_astore_n hx hb (rx_dec1 hk (fun _ => rfl) rfl) rfl hl hi rfl (fun lc2 hl2 => k H locs cells slots lc2 hr hS (rx_al_st1 (v := .ref x) hi hl2) (rx_st1_len ls i.val _) hc hs)
theorem rx_s_astoreN {j pc : Nat} {ls st : List Value} {h : rx_H} {i : Nat} (hi : i < ls.length) (C : rx_at j p R s m args meth c base c0 nL) (hP : rx_P j pc = some (.astore i)) (k : rx_K p l e R s m args below meth c Q D dA b base c0 s0 nL (pc + 2, rx_st1 ls i (.null), st, h)) : rx_K p l e R s m args below meth c Q D dA b base c0 s0 nL (pc, ls, .null :: st, h) := by
  obtain ⟨hx, hb, hml, hown, hts, hfr, hlo, hin, hz, hbz⟩ := C
  have hk := (rx_P_ok hP).1
  intro H locs cells slots lc hr hS hl hn hc hs
  subst hn
  exact lv_astoreN hx hb (rx_dec1 hk (fun _ => rfl) rfl) hl hi rfl (fun lc2 hl2 => k H locs cells slots lc2 hr hS (rx_al_st1 (v := .null) hi hl2) (rx_st1_len ls i _) hc hs)
theorem rx_s_astore_nN {j pc : Nat} {ls st : List Value} {h : rx_H} {i : Fin 4} (hi : i.val < ls.length) (C : rx_at j p R s m args meth c base c0 nL) (hP : rx_P j pc = some (.astore_n i)) (k : rx_K p l e R s m args below meth c Q D dA b base c0 s0 nL (pc + 1, rx_st1 ls i.val (.null), st, h)) : rx_K p l e R s m args below meth c Q D dA b base c0 s0 nL (pc, ls, .null :: st, h) := by
  obtain ⟨hx, hb, hml, hown, hts, hfr, hlo, hin, hz, hbz⟩ := C
  have hk := (rx_P_ok hP).1
  intro H locs cells slots lc hr hS hl hn hc hs
  subst hn
  exact lv_astore_nN hx hb (rx_dec1 hk (fun _ => rfl) rfl) rfl hl hi rfl (fun lc2 hl2 => k H locs cells slots lc2 hr hS (rx_al_st1 (v := .null) hi hl2) (rx_st1_len ls i.val _) hc hs)
theorem rx_s_iconst {j pc : Nat} {ls st : List Value} {h : rx_H} {i : Int} (C : rx_at j p R s m args meth c base c0 nL) (hP : rx_P j pc = some (.iconst i)) (k : rx_K p l e R s m args below meth c Q D dA b base c0 s0 nL (pc + 1, ls, .int (Int32.ofInt i) :: st, h)) : rx_K p l e R s m args below meth c Q D dA b base c0 s0 nL (pc, ls, st, h) := by
  obtain ⟨hx, hb, hml, hown, hts, hfr, hlo, hin, hz, hbz⟩ := C
  have hk := (rx_P_ok hP).1
  intro H locs cells slots lc hr hS hl hn hc hs
  subst hn
  exact lv_iconst hx hb (rx_dec1 hk (fun _ => rfl) rfl) rfl (k H locs cells slots lc hr hS hl rfl hc hs)
theorem rx_s_bipush {j pc : Nat} {ls st : List Value} {h : rx_H} {i : Int} (C : rx_at j p R s m args meth c base c0 nL) (hP : rx_P j pc = some (.bipush i)) (k : rx_K p l e R s m args below meth c Q D dA b base c0 s0 nL (pc + 2, ls, .int (Int8.ofInt i).toInt32 :: st, h)) : rx_K p l e R s m args below meth c Q D dA b base c0 s0 nL (pc, ls, st, h) := by
  obtain ⟨hx, hb, hml, hown, hts, hfr, hlo, hin, hz, hbz⟩ := C
  have hk := (rx_P_ok hP).1
  intro H locs cells slots lc hr hS hl hn hc hs
  subst hn
  exact lv_bipush hx hb (rx_dec1 hk (fun _ => rfl) rfl) rfl (k H locs cells slots lc hr hS hl rfl hc hs)
theorem rx_s_sipush {j pc : Nat} {ls st : List Value} {h : rx_H} {i : Int} (C : rx_at j p R s m args meth c base c0 nL) (hP : rx_P j pc = some (.sipush i)) (k : rx_K p l e R s m args below meth c Q D dA b base c0 s0 nL (pc + 3, ls, .int (Int16.ofInt i).toInt32 :: st, h)) : rx_K p l e R s m args below meth c Q D dA b base c0 s0 nL (pc, ls, st, h) := by
  obtain ⟨hx, hb, hml, hown, hts, hfr, hlo, hin, hz, hbz⟩ := C
  have hk := (rx_P_ok hP).1
  intro H locs cells slots lc hr hS hl hn hc hs
  subst hn
  exact lv_sipush hx hb (rx_dec1 hk (fun _ => rfl) rfl) rfl (k H locs cells slots lc hr hS hl rfl hc hs)
theorem rx_s_lconst {j pc : Nat} {ls st : List Value} {h : rx_H} {i : Fin 2} (C : rx_at j p R s m args meth c base c0 nL) (hP : rx_P j pc = some (.lconst i)) (k : rx_K p l e R s m args below meth c Q D dA b base c0 s0 nL (pc + 1, ls, .long (Int64.ofNat i.val) :: st, h)) : rx_K p l e R s m args below meth c Q D dA b base c0 s0 nL (pc, ls, st, h) := by
  obtain ⟨hx, hb, hml, hown, hts, hfr, hlo, hin, hz, hbz⟩ := C
  have hk := (rx_P_ok hP).1
  intro H locs cells slots lc hr hS hl hn hc hs
  subst hn
  exact lv_lconst hx hb (rx_dec1 hk (fun _ => rfl) rfl) rfl (k H locs cells slots lc hr hS hl rfl hc hs)
theorem rx_s_null {j pc : Nat} {ls st : List Value} {h : rx_H}  (C : rx_at j p R s m args meth c base c0 nL) (hP : rx_P j pc = some (.aconst_null)) (k : rx_K p l e R s m args below meth c Q D dA b base c0 s0 nL (pc + 1, ls, .null :: st, h)) : rx_K p l e R s m args below meth c Q D dA b base c0 s0 nL (pc, ls, st, h) := by
  obtain ⟨hx, hb, hml, hown, hts, hfr, hlo, hin, hz, hbz⟩ := C
  have hk := (rx_P_ok hP).1
  intro H locs cells slots lc hr hS hl hn hc hs
  subst hn
  exact lv_null hx hb (rx_dec1 hk (fun _ => rfl) rfl) (k H locs cells slots lc hr hS hl rfl hc hs)
theorem rx_s_ldc {j pc : Nat} {ls st : List Value} {h : rx_H} {i : Nat} (C : rx_at j p R s m args meth c base c0 nL) (hP : rx_P j pc = some (.ldc i)) (k : rx_K p l e R s m args below meth c Q D dA b base c0 s0 nL (pc + 2, ls, .int (Int32.ofNat i) :: st, h)) : rx_K p l e R s m args below meth c Q D dA b base c0 s0 nL (pc, ls, st, h) := by
  obtain ⟨hx, hb, hml, hown, hts, hfr, hlo, hin, hz, hbz⟩ := C
  have hk := (rx_P_ok hP).1
  intro H locs cells slots lc hr hS hl hn hc hs
  subst hn
  obtain ⟨i2, n2, g1, g2, g3, -⟩ := rx_dec hk
  have g4 : n2 = 2 := g3.elim (fun q => by cases q) id
  subst g4
  cases i2 with
  | ldc x => exact lv_ldc hx hb hown (hts _ (rx_icl_in _ (List.mem_map.mpr ⟨_, of_decide_eq_true g2, rfl⟩))) g1 (k H locs cells slots lc hr hS hl rfl hc hs)
  | _ => exact absurd g2 (by simp [rx_lk])
theorem rx_s_ldc_w {j pc : Nat} {ls st : List Value} {h : rx_H} {i : Nat} (C : rx_at j p R s m args meth c base c0 nL) (hP : rx_P j pc = some (.ldc_w i)) (k : rx_K p l e R s m args below meth c Q D dA b base c0 s0 nL (pc + 3, ls, .int (Int32.ofNat i) :: st, h)) : rx_K p l e R s m args below meth c Q D dA b base c0 s0 nL (pc, ls, st, h) := by
  obtain ⟨hx, hb, hml, hown, hts, hfr, hlo, hin, hz, hbz⟩ := C
  have hk := (rx_P_ok hP).1
  intro H locs cells slots lc hr hS hl hn hc hs
  subst hn
  obtain ⟨i2, n2, g1, g2, g3, -⟩ := rx_dec hk
  have g4 : n2 = 3 := g3.elim (fun q => by cases q) id
  subst g4
  cases i2 with
  | ldc_w x => exact lv_ldcw hx hb hown (hts _ (rx_icl_in _ (List.mem_map.mpr ⟨_, of_decide_eq_true g2, rfl⟩))) g1 (k H locs cells slots lc hr hS hl rfl hc hs)
  | _ => exact absurd g2 (by simp [rx_lk])
theorem rx_s_ldc2_w {j pc : Nat} {ls st : List Value} {h : rx_H} {i : Nat} (C : rx_at j p R s m args meth c base c0 nL) (hP : rx_P j pc = some (.ldc2_w i)) (k : rx_K p l e R s m args below meth c Q D dA b base c0 s0 nL (pc + 3, ls, .long (Int64.ofNat i) :: st, h)) : rx_K p l e R s m args below meth c Q D dA b base c0 s0 nL (pc, ls, st, h) := by
  obtain ⟨hx, hb, hml, hown, hts, hfr, hlo, hin, hz, hbz⟩ := C
  have hk := (rx_P_ok hP).1
  intro H locs cells slots lc hr hS hl hn hc hs
  subst hn
  obtain ⟨i2, n2, g1, g2, g3, -⟩ := rx_dec hk
  have g4 : n2 = 3 := g3.elim (fun q => by cases q) id
  subst g4
  cases i2 with
  | ldc2_w x => exact lv_ldc2 hx hb hown (hts _ (rx_jcl_in _ (List.mem_map.mpr ⟨_, of_decide_eq_true g2, rfl⟩))) g1 (k H locs cells slots lc hr hS hl rfl hc hs)
  | _ => exact absurd g2 (by simp [rx_lk])
theorem rx_s_iinc {j pc : Nat} {ls st : List Value} {h : rx_H} {i : Nat} {n : Int} {x : Int32} (hi : ls[i]? = some (.int x)) (C : rx_at j p R s m args meth c base c0 nL) (hP : rx_P j pc = some (.iinc i n)) (k : rx_K p l e R s m args below meth c Q D dA b base c0 s0 nL (pc + 3, rx_st1 ls i (.int (x + Int32.ofInt n)), st, h)) : rx_K p l e R s m args below meth c Q D dA b base c0 s0 nL (pc, ls, st, h) := by
  obtain ⟨hx, hb, hml, hown, hts, hfr, hlo, hin, hz, hbz⟩ := C
  have hk := (rx_P_ok hP).1
  intro H locs cells slots lc hr hS hl hn hc hs
  subst hn
  have hm : (i, Value.int x) ∈ rx_al (rx_mv (rx_ad b base)) ls := rx_al_mem.mpr ⟨_, hi, rfl, rfl⟩
  obtain ⟨q, hq⟩ := List.getElem?_of_mem hm
  have hlt : i < ls.length := (List.getElem?_eq_some_iff.mp hi).1
  exact lv_iinc hx hb (rx_dec1 hk (fun _ => rfl) rfl) hl hq rfl hlt rfl (fun lc2 hl2 => k H locs cells slots lc2 hr hS (rx_al_st1 (v := .int (x + Int32.ofInt n)) hlt hl2) (rx_st1_len ls i _) hc hs)
theorem rx_s_iadd {j pc : Nat} {ls st : List Value} {h : rx_H} {x y : Int32} (C : rx_at j p R s m args meth c base c0 nL) (hP : rx_P j pc = some (.iadd)) (k : rx_K p l e R s m args below meth c Q D dA b base c0 s0 nL (pc + 1, ls, .int (x + y) :: st, h)) : rx_K p l e R s m args below meth c Q D dA b base c0 s0 nL (pc, ls, .int y :: .int x :: st, h) := by
  obtain ⟨hx, hb, hml, hown, hts, hfr, hlo, hin, hz, hbz⟩ := C
  have hk := (rx_P_ok hP).1
  intro H locs cells slots lc hr hS hl hn hc hs
  subst hn
  exact lv_iadd hx hb (rx_dec1 hk (fun _ => rfl) rfl) (k H locs cells slots lc hr hS hl rfl hc hs)
theorem rx_s_isub {j pc : Nat} {ls st : List Value} {h : rx_H} {x y : Int32} (C : rx_at j p R s m args meth c base c0 nL) (hP : rx_P j pc = some (.isub)) (k : rx_K p l e R s m args below meth c Q D dA b base c0 s0 nL (pc + 1, ls, .int (x - y) :: st, h)) : rx_K p l e R s m args below meth c Q D dA b base c0 s0 nL (pc, ls, .int y :: .int x :: st, h) := by
  obtain ⟨hx, hb, hml, hown, hts, hfr, hlo, hin, hz, hbz⟩ := C
  have hk := (rx_P_ok hP).1
  intro H locs cells slots lc hr hS hl hn hc hs
  subst hn
  exact lv_isub hx hb (rx_dec1 hk (fun _ => rfl) rfl) (k H locs cells slots lc hr hS hl rfl hc hs)
theorem rx_s_imul {j pc : Nat} {ls st : List Value} {h : rx_H} {x y : Int32} (C : rx_at j p R s m args meth c base c0 nL) (hP : rx_P j pc = some (.imul)) (k : rx_K p l e R s m args below meth c Q D dA b base c0 s0 nL (pc + 1, ls, .int (x * y) :: st, h)) : rx_K p l e R s m args below meth c Q D dA b base c0 s0 nL (pc, ls, .int y :: .int x :: st, h) := by
  obtain ⟨hx, hb, hml, hown, hts, hfr, hlo, hin, hz, hbz⟩ := C
  have hk := (rx_P_ok hP).1
  intro H locs cells slots lc hr hS hl hn hc hs
  subst hn
  exact lv_imul hx hb (rx_dec1 hk (fun _ => rfl) rfl) (k H locs cells slots lc hr hS hl rfl hc hs)
theorem rx_s_iand {j pc : Nat} {ls st : List Value} {h : rx_H} {x y : Int32} (C : rx_at j p R s m args meth c base c0 nL) (hP : rx_P j pc = some (.iand)) (k : rx_K p l e R s m args below meth c Q D dA b base c0 s0 nL (pc + 1, ls, .int (x &&& y) :: st, h)) : rx_K p l e R s m args below meth c Q D dA b base c0 s0 nL (pc, ls, .int y :: .int x :: st, h) := by
  obtain ⟨hx, hb, hml, hown, hts, hfr, hlo, hin, hz, hbz⟩ := C
  have hk := (rx_P_ok hP).1
  intro H locs cells slots lc hr hS hl hn hc hs
  subst hn
  exact lv_iand hx hb (rx_dec1 hk (fun _ => rfl) rfl) (k H locs cells slots lc hr hS hl rfl hc hs)
theorem rx_s_ior {j pc : Nat} {ls st : List Value} {h : rx_H} {x y : Int32} (C : rx_at j p R s m args meth c base c0 nL) (hP : rx_P j pc = some (.ior)) (k : rx_K p l e R s m args below meth c Q D dA b base c0 s0 nL (pc + 1, ls, .int (x ||| y) :: st, h)) : rx_K p l e R s m args below meth c Q D dA b base c0 s0 nL (pc, ls, .int y :: .int x :: st, h) := by
  obtain ⟨hx, hb, hml, hown, hts, hfr, hlo, hin, hz, hbz⟩ := C
  have hk := (rx_P_ok hP).1
  intro H locs cells slots lc hr hS hl hn hc hs
  subst hn
  exact lv_ior hx hb (rx_dec1 hk (fun _ => rfl) rfl) (k H locs cells slots lc hr hS hl rfl hc hs)
theorem rx_s_ixor {j pc : Nat} {ls st : List Value} {h : rx_H} {x y : Int32} (C : rx_at j p R s m args meth c base c0 nL) (hP : rx_P j pc = some (.ixor)) (k : rx_K p l e R s m args below meth c Q D dA b base c0 s0 nL (pc + 1, ls, .int (x ^^^ y) :: st, h)) : rx_K p l e R s m args below meth c Q D dA b base c0 s0 nL (pc, ls, .int y :: .int x :: st, h) := by
  obtain ⟨hx, hb, hml, hown, hts, hfr, hlo, hin, hz, hbz⟩ := C
  have hk := (rx_P_ok hP).1
  intro H locs cells slots lc hr hS hl hn hc hs
  subst hn
  exact lv_ixor hx hb (rx_dec1 hk (fun _ => rfl) rfl) (k H locs cells slots lc hr hS hl rfl hc hs)
theorem rx_s_ishl {j pc : Nat} {ls st : List Value} {h : rx_H} {x y : Int32} (C : rx_at j p R s m args meth c base c0 nL) (hP : rx_P j pc = some (.ishl)) (k : rx_K p l e R s m args below meth c Q D dA b base c0 s0 nL (pc + 1, ls, .int (x <<< (y &&& 31)) :: st, h)) : rx_K p l e R s m args below meth c Q D dA b base c0 s0 nL (pc, ls, .int y :: .int x :: st, h) := by
  obtain ⟨hx, hb, hml, hown, hts, hfr, hlo, hin, hz, hbz⟩ := C
  have hk := (rx_P_ok hP).1
  intro H locs cells slots lc hr hS hl hn hc hs
  subst hn
  exact lv_ishl hx hb (rx_dec1 hk (fun _ => rfl) rfl) (k H locs cells slots lc hr hS hl rfl hc hs)
theorem rx_s_ishr {j pc : Nat} {ls st : List Value} {h : rx_H} {x y : Int32} (C : rx_at j p R s m args meth c base c0 nL) (hP : rx_P j pc = some (.ishr)) (k : rx_K p l e R s m args below meth c Q D dA b base c0 s0 nL (pc + 1, ls, .int (x >>> (y &&& 31)) :: st, h)) : rx_K p l e R s m args below meth c Q D dA b base c0 s0 nL (pc, ls, .int y :: .int x :: st, h) := by
  obtain ⟨hx, hb, hml, hown, hts, hfr, hlo, hin, hz, hbz⟩ := C
  have hk := (rx_P_ok hP).1
  intro H locs cells slots lc hr hS hl hn hc hs
  subst hn
  exact lv_ishr hx hb (rx_dec1 hk (fun _ => rfl) rfl) (k H locs cells slots lc hr hS hl rfl hc hs)
theorem rx_s_idiv {j pc : Nat} {ls st : List Value} {h : rx_H} {x y : Int32} (hy : ¬ y = 0) (C : rx_at j p R s m args meth c base c0 nL) (hP : rx_P j pc = some (.idiv)) (k : rx_K p l e R s m args below meth c Q D dA b base c0 s0 nL (pc + 1, ls, .int (x / y) :: st, h)) : rx_K p l e R s m args below meth c Q D dA b base c0 s0 nL (pc, ls, .int y :: .int x :: st, h) := by
  obtain ⟨hx, hb, hml, hown, hts, hfr, hlo, hin, hz, hbz⟩ := C
  have hk := (rx_P_ok hP).1
  intro H locs cells slots lc hr hS hl hn hc hs
  subst hn
  exact lv_idiv hx hb (rx_dec1 hk (fun _ => rfl) rfl) hy (k H locs cells slots lc hr hS hl rfl hc hs)
theorem rx_s_irem {j pc : Nat} {ls st : List Value} {h : rx_H} {x y : Int32} (hy : ¬ y = 0) (C : rx_at j p R s m args meth c base c0 nL) (hP : rx_P j pc = some (.irem)) (k : rx_K p l e R s m args below meth c Q D dA b base c0 s0 nL (pc + 1, ls, .int (x - x / y * y) :: st, h)) : rx_K p l e R s m args below meth c Q D dA b base c0 s0 nL (pc, ls, .int y :: .int x :: st, h) := by
  obtain ⟨hx, hb, hml, hown, hts, hfr, hlo, hin, hz, hbz⟩ := C
  have hk := (rx_P_ok hP).1
  intro H locs cells slots lc hr hS hl hn hc hs
  subst hn
  exact lv_irem hx hb (rx_dec1 hk (fun _ => rfl) rfl) hy (k H locs cells slots lc hr hS hl rfl hc hs)
theorem rx_s_ladd {j pc : Nat} {ls st : List Value} {h : rx_H} {x y : Int64} (C : rx_at j p R s m args meth c base c0 nL) (hP : rx_P j pc = some (.ladd)) (k : rx_K p l e R s m args below meth c Q D dA b base c0 s0 nL (pc + 1, ls, .long (x + y) :: st, h)) : rx_K p l e R s m args below meth c Q D dA b base c0 s0 nL (pc, ls, .long y :: .long x :: st, h) := by
  obtain ⟨hx, hb, hml, hown, hts, hfr, hlo, hin, hz, hbz⟩ := C
  have hk := (rx_P_ok hP).1
  intro H locs cells slots lc hr hS hl hn hc hs
  subst hn
  exact lv_ladd hx hb (rx_dec1 hk (fun _ => rfl) rfl) (k H locs cells slots lc hr hS hl rfl hc hs)
theorem rx_s_lsub {j pc : Nat} {ls st : List Value} {h : rx_H} {x y : Int64} (C : rx_at j p R s m args meth c base c0 nL) (hP : rx_P j pc = some (.lsub)) (k : rx_K p l e R s m args below meth c Q D dA b base c0 s0 nL (pc + 1, ls, .long (x - y) :: st, h)) : rx_K p l e R s m args below meth c Q D dA b base c0 s0 nL (pc, ls, .long y :: .long x :: st, h) := by
  obtain ⟨hx, hb, hml, hown, hts, hfr, hlo, hin, hz, hbz⟩ := C
  have hk := (rx_P_ok hP).1
  intro H locs cells slots lc hr hS hl hn hc hs
  subst hn
  exact lv_lsub hx hb (rx_dec1 hk (fun _ => rfl) rfl) (k H locs cells slots lc hr hS hl rfl hc hs)
theorem rx_s_lmul {j pc : Nat} {ls st : List Value} {h : rx_H} {x y : Int64} (C : rx_at j p R s m args meth c base c0 nL) (hP : rx_P j pc = some (.lmul)) (k : rx_K p l e R s m args below meth c Q D dA b base c0 s0 nL (pc + 1, ls, .long (x * y) :: st, h)) : rx_K p l e R s m args below meth c Q D dA b base c0 s0 nL (pc, ls, .long y :: .long x :: st, h) := by
  obtain ⟨hx, hb, hml, hown, hts, hfr, hlo, hin, hz, hbz⟩ := C
  have hk := (rx_P_ok hP).1
  intro H locs cells slots lc hr hS hl hn hc hs
  subst hn
  exact lv_lmul hx hb (rx_dec1 hk (fun _ => rfl) rfl) (k H locs cells slots lc hr hS hl rfl hc hs)
theorem rx_s_land {j pc : Nat} {ls st : List Value} {h : rx_H} {x y : Int64} (C : rx_at j p R s m args meth c base c0 nL) (hP : rx_P j pc = some (.land)) (k : rx_K p l e R s m args below meth c Q D dA b base c0 s0 nL (pc + 1, ls, .long (x &&& y) :: st, h)) : rx_K p l e R s m args below meth c Q D dA b base c0 s0 nL (pc, ls, .long y :: .long x :: st, h) := by
  obtain ⟨hx, hb, hml, hown, hts, hfr, hlo, hin, hz, hbz⟩ := C
  have hk := (rx_P_ok hP).1
  intro H locs cells slots lc hr hS hl hn hc hs
  subst hn
  exact lv_land hx hb (rx_dec1 hk (fun _ => rfl) rfl) (k H locs cells slots lc hr hS hl rfl hc hs)
theorem rx_s_lor {j pc : Nat} {ls st : List Value} {h : rx_H} {x y : Int64} (C : rx_at j p R s m args meth c base c0 nL) (hP : rx_P j pc = some (.lor)) (k : rx_K p l e R s m args below meth c Q D dA b base c0 s0 nL (pc + 1, ls, .long (x ||| y) :: st, h)) : rx_K p l e R s m args below meth c Q D dA b base c0 s0 nL (pc, ls, .long y :: .long x :: st, h) := by
  obtain ⟨hx, hb, hml, hown, hts, hfr, hlo, hin, hz, hbz⟩ := C
  have hk := (rx_P_ok hP).1
  intro H locs cells slots lc hr hS hl hn hc hs
  subst hn
  exact lv_lor hx hb (rx_dec1 hk (fun _ => rfl) rfl) (k H locs cells slots lc hr hS hl rfl hc hs)
theorem rx_s_lxor {j pc : Nat} {ls st : List Value} {h : rx_H} {x y : Int64} (C : rx_at j p R s m args meth c base c0 nL) (hP : rx_P j pc = some (.lxor)) (k : rx_K p l e R s m args below meth c Q D dA b base c0 s0 nL (pc + 1, ls, .long (x ^^^ y) :: st, h)) : rx_K p l e R s m args below meth c Q D dA b base c0 s0 nL (pc, ls, .long y :: .long x :: st, h) := by
  obtain ⟨hx, hb, hml, hown, hts, hfr, hlo, hin, hz, hbz⟩ := C
  have hk := (rx_P_ok hP).1
  intro H locs cells slots lc hr hS hl hn hc hs
  subst hn
  exact lv_lxor hx hb (rx_dec1 hk (fun _ => rfl) rfl) (k H locs cells slots lc hr hS hl rfl hc hs)
theorem rx_s_lneg {j pc : Nat} {ls st : List Value} {h : rx_H} {x : Int64} (C : rx_at j p R s m args meth c base c0 nL) (hP : rx_P j pc = some (.lneg)) (k : rx_K p l e R s m args below meth c Q D dA b base c0 s0 nL (pc + 1, ls, .long (-x) :: st, h)) : rx_K p l e R s m args below meth c Q D dA b base c0 s0 nL (pc, ls, .long x :: st, h) := by
  obtain ⟨hx, hb, hml, hown, hts, hfr, hlo, hin, hz, hbz⟩ := C
  have hk := (rx_P_ok hP).1
  intro H locs cells slots lc hr hS hl hn hc hs
  subst hn
  exact lv_lneg hx hb (rx_dec1 hk (fun _ => rfl) rfl) (k H locs cells slots lc hr hS hl rfl hc hs)
theorem rx_s_lshl {j pc : Nat} {ls st : List Value} {h : rx_H} {x : Int64} {y : Int32} (C : rx_at j p R s m args meth c base c0 nL) (hP : rx_P j pc = some (.lshl)) (k : rx_K p l e R s m args below meth c Q D dA b base c0 s0 nL (pc + 1, ls, .long (x <<< (y.toInt64 &&& 63)) :: st, h)) : rx_K p l e R s m args below meth c Q D dA b base c0 s0 nL (pc, ls, .int y :: .long x :: st, h) := by
  obtain ⟨hx, hb, hml, hown, hts, hfr, hlo, hin, hz, hbz⟩ := C
  have hk := (rx_P_ok hP).1
  intro H locs cells slots lc hr hS hl hn hc hs
  subst hn
  exact lv_lshl hx hb (rx_dec1 hk (fun _ => rfl) rfl) rfl (k H locs cells slots lc hr hS hl rfl hc hs)
theorem rx_s_lushr {j pc : Nat} {ls st : List Value} {h : rx_H} {x : Int64} {y : Int32} (C : rx_at j p R s m args meth c base c0 nL) (hP : rx_P j pc = some (.lushr)) (k : rx_K p l e R s m args below meth c Q D dA b base c0 s0 nL (pc + 1, ls, .long (x.toUInt64 >>> (y.toInt64.toUInt64 &&& Int64.toUInt64 63)).toInt64 :: st, h)) : rx_K p l e R s m args below meth c Q D dA b base c0 s0 nL (pc, ls, .int y :: .long x :: st, h) := by
  obtain ⟨hx, hb, hml, hown, hts, hfr, hlo, hin, hz, hbz⟩ := C
  have hk := (rx_P_ok hP).1
  intro H locs cells slots lc hr hS hl hn hc hs
  subst hn
  exact lv_lushr hx hb (rx_dec1 hk (fun _ => rfl) rfl) rfl (k H locs cells slots lc hr hS hl rfl hc hs)
theorem rx_s_lcmp {j pc : Nat} {ls st : List Value} {h : rx_H} {x y : Int64} (C : rx_at j p R s m args meth c base c0 nL) (hP : rx_P j pc = some (.lcmp)) (k : rx_K p l e R s m args below meth c Q D dA b base c0 s0 nL (pc + 1, ls, .int (lg_cmp x y) :: st, h)) : rx_K p l e R s m args below meth c Q D dA b base c0 s0 nL (pc, ls, .long y :: .long x :: st, h) := by
  obtain ⟨hx, hb, hml, hown, hts, hfr, hlo, hin, hz, hbz⟩ := C
  have hk := (rx_P_ok hP).1
  intro H locs cells slots lc hr hS hl hn hc hs
  subst hn
  exact W.lcmp hx hb (rx_dec1 hk (fun _ => rfl) rfl) (k H locs cells slots lc hr hS hl rfl hc hs)
theorem rx_s_i2l {j pc : Nat} {ls st : List Value} {h : rx_H} {x : Int32} (C : rx_at j p R s m args meth c base c0 nL) (hP : rx_P j pc = some (.i2l)) (k : rx_K p l e R s m args below meth c Q D dA b base c0 s0 nL (pc + 1, ls, .long x.toInt64 :: st, h)) : rx_K p l e R s m args below meth c Q D dA b base c0 s0 nL (pc, ls, .int x :: st, h) := by
  obtain ⟨hx, hb, hml, hown, hts, hfr, hlo, hin, hz, hbz⟩ := C
  have hk := (rx_P_ok hP).1
  intro H locs cells slots lc hr hS hl hn hc hs
  subst hn
  exact lv_i2l hx hb (rx_dec1 hk (fun _ => rfl) rfl) rfl (k H locs cells slots lc hr hS hl rfl hc hs)
theorem rx_s_l2i {j pc : Nat} {ls st : List Value} {h : rx_H} {x : Int64} (C : rx_at j p R s m args meth c base c0 nL) (hP : rx_P j pc = some (.l2i)) (k : rx_K p l e R s m args below meth c Q D dA b base c0 s0 nL (pc + 1, ls, .int x.toInt32 :: st, h)) : rx_K p l e R s m args below meth c Q D dA b base c0 s0 nL (pc, ls, .long x :: st, h) := by
  obtain ⟨hx, hb, hml, hown, hts, hfr, hlo, hin, hz, hbz⟩ := C
  have hk := (rx_P_ok hP).1
  intro H locs cells slots lc hr hS hl hn hc hs
  subst hn
  exact lv_l2i hx hb (rx_dec1 hk (fun _ => rfl) rfl) rfl (k H locs cells slots lc hr hS hl rfl hc hs)
theorem rx_s_i2b {j pc : Nat} {ls st : List Value} {h : rx_H} {x : Int32} (C : rx_at j p R s m args meth c base c0 nL) (hP : rx_P j pc = some (.i2b)) (k : rx_K p l e R s m args below meth c Q D dA b base c0 s0 nL (pc + 1, ls, .int x.toInt8.toInt32 :: st, h)) : rx_K p l e R s m args below meth c Q D dA b base c0 s0 nL (pc, ls, .int x :: st, h) := by
  obtain ⟨hx, hb, hml, hown, hts, hfr, hlo, hin, hz, hbz⟩ := C
  have hk := (rx_P_ok hP).1
  intro H locs cells slots lc hr hS hl hn hc hs
  subst hn
  exact lv_i2b hx hb (rx_dec1 hk (fun _ => rfl) rfl) rfl (k H locs cells slots lc hr hS hl rfl hc hs)
theorem rx_s_dup {j pc : Nat} {ls st : List Value} {h : rx_H} {v : Value} (hv : v.category = 1) (C : rx_at j p R s m args meth c base c0 nL) (hP : rx_P j pc = some (.dup)) (k : rx_K p l e R s m args below meth c Q D dA b base c0 s0 nL (pc + 1, ls, v :: v :: st, h)) : rx_K p l e R s m args below meth c Q D dA b base c0 s0 nL (pc, ls, v :: st, h) := by
  obtain ⟨hx, hb, hml, hown, hts, hfr, hlo, hin, hz, hbz⟩ := C
  have hk := (rx_P_ok hP).1
  intro H locs cells slots lc hr hS hl hn hc hs
  subst hn
  exact lv_dup hx hb (rx_dec1 hk (fun _ => rfl) rfl) ((rx_mv_cat _ v).trans hv) (k H locs cells slots lc hr hS hl rfl hc hs)
theorem rx_s_dup2 {j pc : Nat} {ls st : List Value} {h : rx_H} {v w : Value} (hv : v.category = 1) (hw : w.category = 1) (C : rx_at j p R s m args meth c base c0 nL) (hP : rx_P j pc = some (.dup2)) (k : rx_K p l e R s m args below meth c Q D dA b base c0 s0 nL (pc + 1, ls, v :: w :: v :: w :: st, h)) : rx_K p l e R s m args below meth c Q D dA b base c0 s0 nL (pc, ls, v :: w :: st, h) := by
  obtain ⟨hx, hb, hml, hown, hts, hfr, hlo, hin, hz, hbz⟩ := C
  have hk := (rx_P_ok hP).1
  intro H locs cells slots lc hr hS hl hn hc hs
  subst hn
  exact lv_dup2_11 hx hb (rx_dec1 hk (fun _ => rfl) rfl) ((rx_mv_cat _ v).trans hv) ((rx_mv_cat _ w).trans hw) (k H locs cells slots lc hr hS hl rfl hc hs)
theorem rx_s_if_eq {j pc : Nat} {ls st : List Value} {h : rx_H} {x : Int32} {off : Int} (C : rx_at j p R s m args meth c base c0 nL) (hP : rx_P j pc = some (.ifCond .eq off)) (kt : x = 0 → rx_K p l e R s m args below meth c Q D dA b base c0 s0 nL (rx_to pc off, ls, st, h)) (kf : ¬ x = 0 → rx_K p l e R s m args below meth c Q D dA b base c0 s0 nL (pc + 3, ls, st, h)) : rx_K p l e R s m args below meth c Q D dA b base c0 s0 nL (pc, ls, .int x :: st, h) := by
  obtain ⟨hx, hb, hml, hown, hts, hfr, hlo, hin, hz, hbz⟩ := C
  have hk := (rx_P_ok hP).1
  obtain ⟨-, -, -, -, -, ht⟩ := rx_dec hk
  have ht := rx_tgt (of_decide_eq_true ht)
  intro H locs cells slots lc hr hS hl hn hc hs
  subst hn
  exact lv_if_eq hx hb (rx_dec1 hk (fun _ => rfl) rfl) ht (fun q => kt q H locs cells slots lc hr hS hl rfl hc hs) (fun q => kf q H locs cells slots lc hr hS hl rfl hc hs)
theorem rx_s_if_ne {j pc : Nat} {ls st : List Value} {h : rx_H} {x : Int32} {off : Int} (C : rx_at j p R s m args meth c base c0 nL) (hP : rx_P j pc = some (.ifCond .ne off)) (kt : ¬ x = 0 → rx_K p l e R s m args below meth c Q D dA b base c0 s0 nL (rx_to pc off, ls, st, h)) (kf : x = 0 → rx_K p l e R s m args below meth c Q D dA b base c0 s0 nL (pc + 3, ls, st, h)) : rx_K p l e R s m args below meth c Q D dA b base c0 s0 nL (pc, ls, .int x :: st, h) := by
  obtain ⟨hx, hb, hml, hown, hts, hfr, hlo, hin, hz, hbz⟩ := C
  have hk := (rx_P_ok hP).1
  obtain ⟨-, -, -, -, -, ht⟩ := rx_dec hk
  have ht := rx_tgt (of_decide_eq_true ht)
  intro H locs cells slots lc hr hS hl hn hc hs
  subst hn
  exact lv_if_ne hx hb (rx_dec1 hk (fun _ => rfl) rfl) ht (fun q => kt q H locs cells slots lc hr hS hl rfl hc hs) (fun q => kf q H locs cells slots lc hr hS hl rfl hc hs)
theorem rx_s_if_lt {j pc : Nat} {ls st : List Value} {h : rx_H} {x : Int32} {off : Int} (C : rx_at j p R s m args meth c base c0 nL) (hP : rx_P j pc = some (.ifCond .lt off)) (kt : x < 0 → rx_K p l e R s m args below meth c Q D dA b base c0 s0 nL (rx_to pc off, ls, st, h)) (kf : ¬ x < 0 → rx_K p l e R s m args below meth c Q D dA b base c0 s0 nL (pc + 3, ls, st, h)) : rx_K p l e R s m args below meth c Q D dA b base c0 s0 nL (pc, ls, .int x :: st, h) := by
  obtain ⟨hx, hb, hml, hown, hts, hfr, hlo, hin, hz, hbz⟩ := C
  have hk := (rx_P_ok hP).1
  obtain ⟨-, -, -, -, -, ht⟩ := rx_dec hk
  have ht := rx_tgt (of_decide_eq_true ht)
  intro H locs cells slots lc hr hS hl hn hc hs
  subst hn
  exact lv_if_lt hx hb (rx_dec1 hk (fun _ => rfl) rfl) ht (fun q => kt q H locs cells slots lc hr hS hl rfl hc hs) (fun q => kf q H locs cells slots lc hr hS hl rfl hc hs)
theorem rx_s_if_ge {j pc : Nat} {ls st : List Value} {h : rx_H} {x : Int32} {off : Int} (C : rx_at j p R s m args meth c base c0 nL) (hP : rx_P j pc = some (.ifCond .ge off)) (kt : 0 ≤ x → rx_K p l e R s m args below meth c Q D dA b base c0 s0 nL (rx_to pc off, ls, st, h)) (kf : ¬ 0 ≤ x → rx_K p l e R s m args below meth c Q D dA b base c0 s0 nL (pc + 3, ls, st, h)) : rx_K p l e R s m args below meth c Q D dA b base c0 s0 nL (pc, ls, .int x :: st, h) := by
  obtain ⟨hx, hb, hml, hown, hts, hfr, hlo, hin, hz, hbz⟩ := C
  have hk := (rx_P_ok hP).1
  obtain ⟨-, -, -, -, -, ht⟩ := rx_dec hk
  have ht := rx_tgt (of_decide_eq_true ht)
  intro H locs cells slots lc hr hS hl hn hc hs
  subst hn
  exact lv_if_ge hx hb (rx_dec1 hk (fun _ => rfl) rfl) ht (fun q => kt q H locs cells slots lc hr hS hl rfl hc hs) (fun q => kf q H locs cells slots lc hr hS hl rfl hc hs)
theorem rx_s_if_gt {j pc : Nat} {ls st : List Value} {h : rx_H} {x : Int32} {off : Int} (C : rx_at j p R s m args meth c base c0 nL) (hP : rx_P j pc = some (.ifCond .gt off)) (kt : 0 < x → rx_K p l e R s m args below meth c Q D dA b base c0 s0 nL (rx_to pc off, ls, st, h)) (kf : ¬ 0 < x → rx_K p l e R s m args below meth c Q D dA b base c0 s0 nL (pc + 3, ls, st, h)) : rx_K p l e R s m args below meth c Q D dA b base c0 s0 nL (pc, ls, .int x :: st, h) := by
  obtain ⟨hx, hb, hml, hown, hts, hfr, hlo, hin, hz, hbz⟩ := C
  have hk := (rx_P_ok hP).1
  obtain ⟨-, -, -, -, -, ht⟩ := rx_dec hk
  have ht := rx_tgt (of_decide_eq_true ht)
  intro H locs cells slots lc hr hS hl hn hc hs
  subst hn
  exact lv_if_gt hx hb (rx_dec1 hk (fun _ => rfl) rfl) ht (fun q => kt q H locs cells slots lc hr hS hl rfl hc hs) (fun q => kf q H locs cells slots lc hr hS hl rfl hc hs)
theorem rx_s_if_le {j pc : Nat} {ls st : List Value} {h : rx_H} {x : Int32} {off : Int} (C : rx_at j p R s m args meth c base c0 nL) (hP : rx_P j pc = some (.ifCond .le off)) (kt : x ≤ 0 → rx_K p l e R s m args below meth c Q D dA b base c0 s0 nL (rx_to pc off, ls, st, h)) (kf : ¬ x ≤ 0 → rx_K p l e R s m args below meth c Q D dA b base c0 s0 nL (pc + 3, ls, st, h)) : rx_K p l e R s m args below meth c Q D dA b base c0 s0 nL (pc, ls, .int x :: st, h) := by
  obtain ⟨hx, hb, hml, hown, hts, hfr, hlo, hin, hz, hbz⟩ := C
  have hk := (rx_P_ok hP).1
  obtain ⟨-, -, -, -, -, ht⟩ := rx_dec hk
  have ht := rx_tgt (of_decide_eq_true ht)
  intro H locs cells slots lc hr hS hl hn hc hs
  subst hn
  exact lv_if_le hx hb (rx_dec1 hk (fun _ => rfl) rfl) ht (fun q => kt q H locs cells slots lc hr hS hl rfl hc hs) (fun q => kf q H locs cells slots lc hr hS hl rfl hc hs)
theorem rx_s_icmp_eq {j pc : Nat} {ls st : List Value} {h : rx_H} {x y : Int32} {off : Int} (C : rx_at j p R s m args meth c base c0 nL) (hP : rx_P j pc = some (.if_icmp .eq off)) (kt : x = y → rx_K p l e R s m args below meth c Q D dA b base c0 s0 nL (rx_to pc off, ls, st, h)) (kf : ¬ x = y → rx_K p l e R s m args below meth c Q D dA b base c0 s0 nL (pc + 3, ls, st, h)) : rx_K p l e R s m args below meth c Q D dA b base c0 s0 nL (pc, ls, .int y :: .int x :: st, h) := by
  obtain ⟨hx, hb, hml, hown, hts, hfr, hlo, hin, hz, hbz⟩ := C
  have hk := (rx_P_ok hP).1
  obtain ⟨-, -, -, -, -, ht⟩ := rx_dec hk
  have ht := rx_tgt (of_decide_eq_true ht)
  intro H locs cells slots lc hr hS hl hn hc hs
  subst hn
  exact lv_icmp_eq hx hb (rx_dec1 hk (fun _ => rfl) rfl) ht (fun q => kt q H locs cells slots lc hr hS hl rfl hc hs) (fun q => kf q H locs cells slots lc hr hS hl rfl hc hs)
theorem rx_s_icmp_ne {j pc : Nat} {ls st : List Value} {h : rx_H} {x y : Int32} {off : Int} (C : rx_at j p R s m args meth c base c0 nL) (hP : rx_P j pc = some (.if_icmp .ne off)) (kt : ¬ x = y → rx_K p l e R s m args below meth c Q D dA b base c0 s0 nL (rx_to pc off, ls, st, h)) (kf : x = y → rx_K p l e R s m args below meth c Q D dA b base c0 s0 nL (pc + 3, ls, st, h)) : rx_K p l e R s m args below meth c Q D dA b base c0 s0 nL (pc, ls, .int y :: .int x :: st, h) := by
  obtain ⟨hx, hb, hml, hown, hts, hfr, hlo, hin, hz, hbz⟩ := C
  have hk := (rx_P_ok hP).1
  obtain ⟨-, -, -, -, -, ht⟩ := rx_dec hk
  have ht := rx_tgt (of_decide_eq_true ht)
  intro H locs cells slots lc hr hS hl hn hc hs
  subst hn
  exact lv_icmp_ne hx hb (rx_dec1 hk (fun _ => rfl) rfl) ht (fun q => kt q H locs cells slots lc hr hS hl rfl hc hs) (fun q => kf q H locs cells slots lc hr hS hl rfl hc hs)
theorem rx_s_icmp_lt {j pc : Nat} {ls st : List Value} {h : rx_H} {x y : Int32} {off : Int} (C : rx_at j p R s m args meth c base c0 nL) (hP : rx_P j pc = some (.if_icmp .lt off)) (kt : x < y → rx_K p l e R s m args below meth c Q D dA b base c0 s0 nL (rx_to pc off, ls, st, h)) (kf : ¬ x < y → rx_K p l e R s m args below meth c Q D dA b base c0 s0 nL (pc + 3, ls, st, h)) : rx_K p l e R s m args below meth c Q D dA b base c0 s0 nL (pc, ls, .int y :: .int x :: st, h) := by
  obtain ⟨hx, hb, hml, hown, hts, hfr, hlo, hin, hz, hbz⟩ := C
  have hk := (rx_P_ok hP).1
  obtain ⟨-, -, -, -, -, ht⟩ := rx_dec hk
  have ht := rx_tgt (of_decide_eq_true ht)
  intro H locs cells slots lc hr hS hl hn hc hs
  subst hn
  exact lv_icmp_lt hx hb (rx_dec1 hk (fun _ => rfl) rfl) ht (fun q => kt q H locs cells slots lc hr hS hl rfl hc hs) (fun q => kf q H locs cells slots lc hr hS hl rfl hc hs)
theorem rx_s_icmp_ge {j pc : Nat} {ls st : List Value} {h : rx_H} {x y : Int32} {off : Int} (C : rx_at j p R s m args meth c base c0 nL) (hP : rx_P j pc = some (.if_icmp .ge off)) (kt : y ≤ x → rx_K p l e R s m args below meth c Q D dA b base c0 s0 nL (rx_to pc off, ls, st, h)) (kf : ¬ y ≤ x → rx_K p l e R s m args below meth c Q D dA b base c0 s0 nL (pc + 3, ls, st, h)) : rx_K p l e R s m args below meth c Q D dA b base c0 s0 nL (pc, ls, .int y :: .int x :: st, h) := by
  obtain ⟨hx, hb, hml, hown, hts, hfr, hlo, hin, hz, hbz⟩ := C
  have hk := (rx_P_ok hP).1
  obtain ⟨-, -, -, -, -, ht⟩ := rx_dec hk
  have ht := rx_tgt (of_decide_eq_true ht)
  intro H locs cells slots lc hr hS hl hn hc hs
  subst hn
  exact lv_icmp_ge hx hb (rx_dec1 hk (fun _ => rfl) rfl) ht (fun q => kt q H locs cells slots lc hr hS hl rfl hc hs) (fun q => kf q H locs cells slots lc hr hS hl rfl hc hs)
theorem rx_s_icmp_gt {j pc : Nat} {ls st : List Value} {h : rx_H} {x y : Int32} {off : Int} (C : rx_at j p R s m args meth c base c0 nL) (hP : rx_P j pc = some (.if_icmp .gt off)) (kt : y < x → rx_K p l e R s m args below meth c Q D dA b base c0 s0 nL (rx_to pc off, ls, st, h)) (kf : ¬ y < x → rx_K p l e R s m args below meth c Q D dA b base c0 s0 nL (pc + 3, ls, st, h)) : rx_K p l e R s m args below meth c Q D dA b base c0 s0 nL (pc, ls, .int y :: .int x :: st, h) := by
  obtain ⟨hx, hb, hml, hown, hts, hfr, hlo, hin, hz, hbz⟩ := C
  have hk := (rx_P_ok hP).1
  obtain ⟨-, -, -, -, -, ht⟩ := rx_dec hk
  have ht := rx_tgt (of_decide_eq_true ht)
  intro H locs cells slots lc hr hS hl hn hc hs
  subst hn
  exact lv_icmp_gt hx hb (rx_dec1 hk (fun _ => rfl) rfl) ht (fun q => kt q H locs cells slots lc hr hS hl rfl hc hs) (fun q => kf q H locs cells slots lc hr hS hl rfl hc hs)
theorem rx_s_icmp_le {j pc : Nat} {ls st : List Value} {h : rx_H} {x y : Int32} {off : Int} (C : rx_at j p R s m args meth c base c0 nL) (hP : rx_P j pc = some (.if_icmp .le off)) (kt : x ≤ y → rx_K p l e R s m args below meth c Q D dA b base c0 s0 nL (rx_to pc off, ls, st, h)) (kf : ¬ x ≤ y → rx_K p l e R s m args below meth c Q D dA b base c0 s0 nL (pc + 3, ls, st, h)) : rx_K p l e R s m args below meth c Q D dA b base c0 s0 nL (pc, ls, .int y :: .int x :: st, h) := by
  obtain ⟨hx, hb, hml, hown, hts, hfr, hlo, hin, hz, hbz⟩ := C
  have hk := (rx_P_ok hP).1
  obtain ⟨-, -, -, -, -, ht⟩ := rx_dec hk
  have ht := rx_tgt (of_decide_eq_true ht)
  intro H locs cells slots lc hr hS hl hn hc hs
  subst hn
  exact lv_icmp_le hx hb (rx_dec1 hk (fun _ => rfl) rfl) ht (fun q => kt q H locs cells slots lc hr hS hl rfl hc hs) (fun q => kf q H locs cells slots lc hr hS hl rfl hc hs)
theorem rx_s_goto {j pc : Nat} {ls st : List Value} {h : rx_H}  {off : Int} (C : rx_at j p R s m args meth c base c0 nL) (hP : rx_P j pc = some (.goto off)) (kt : rx_K p l e R s m args below meth c Q D dA b base c0 s0 nL (rx_to pc off, ls, st, h)) (kf : True) : rx_K p l e R s m args below meth c Q D dA b base c0 s0 nL (pc, ls, st, h) := by
  obtain ⟨hx, hb, hml, hown, hts, hfr, hlo, hin, hz, hbz⟩ := C
  have hk := (rx_P_ok hP).1
  obtain ⟨-, -, -, -, -, ht⟩ := rx_dec hk
  have ht := rx_tgt (of_decide_eq_true ht)
  intro H locs cells slots lc hr hS hl hn hc hs
  subst hn
  exact lv_goto hx hb (rx_dec1 hk (fun _ => rfl) rfl) ht (kt H locs cells slots lc hr hS hl rfl hc hs)
theorem rx_s_ifnull {j pc : Nat} {ls st : List Value} {h : rx_H} {x : Nat} {off : Int} (C : rx_at j p R s m args meth c base c0 nL) (hP : rx_P j pc = some (.ifnull off)) (kt : True) (kf : rx_K p l e R s m args below meth c Q D dA b base c0 s0 nL (pc + 3, ls, st, h)) : rx_K p l e R s m args below meth c Q D dA b base c0 s0 nL (pc, ls, .ref x :: st, h) := by
  obtain ⟨hx, hb, hml, hown, hts, hfr, hlo, hin, hz, hbz⟩ := C
  have hk := (rx_P_ok hP).1
  obtain ⟨-, -, -, -, -, ht⟩ := rx_dec hk
  have ht := rx_tgt (of_decide_eq_true ht)
  intro H locs cells slots lc hr hS hl hn hc hs
  subst hn
  exact lv_ifnull hx hb (rx_dec1 hk (fun _ => rfl) rfl) (kf H locs cells slots lc hr hS hl rfl hc hs)
theorem rx_s_ifnullN {j pc : Nat} {ls st : List Value} {h : rx_H}  {off : Int} (C : rx_at j p R s m args meth c base c0 nL) (hP : rx_P j pc = some (.ifnull off)) (kt : rx_K p l e R s m args below meth c Q D dA b base c0 s0 nL (rx_to pc off, ls, st, h)) (kf : True) : rx_K p l e R s m args below meth c Q D dA b base c0 s0 nL (pc, ls, .null :: st, h) := by
  obtain ⟨hx, hb, hml, hown, hts, hfr, hlo, hin, hz, hbz⟩ := C
  have hk := (rx_P_ok hP).1
  obtain ⟨-, -, -, -, -, ht⟩ := rx_dec hk
  have ht := rx_tgt (of_decide_eq_true ht)
  intro H locs cells slots lc hr hS hl hn hc hs
  subst hn
  exact lv_ifnullN hx hb (rx_dec1 hk (fun _ => rfl) rfl) ht (kt H locs cells slots lc hr hS hl rfl hc hs)
theorem rx_s_ifnonnull {j pc : Nat} {ls st : List Value} {h : rx_H} {x : Nat} {off : Int} (C : rx_at j p R s m args meth c base c0 nL) (hP : rx_P j pc = some (.ifnonnull off)) (kt : rx_K p l e R s m args below meth c Q D dA b base c0 s0 nL (rx_to pc off, ls, st, h)) (kf : True) : rx_K p l e R s m args below meth c Q D dA b base c0 s0 nL (pc, ls, .ref x :: st, h) := by
  obtain ⟨hx, hb, hml, hown, hts, hfr, hlo, hin, hz, hbz⟩ := C
  have hk := (rx_P_ok hP).1
  obtain ⟨-, -, -, -, -, ht⟩ := rx_dec hk
  have ht := rx_tgt (of_decide_eq_true ht)
  intro H locs cells slots lc hr hS hl hn hc hs
  subst hn
  exact lv_ifnonnull hx hb (rx_dec1 hk (fun _ => rfl) rfl) ht (kt H locs cells slots lc hr hS hl rfl hc hs)
theorem rx_s_ifnonnullN {j pc : Nat} {ls st : List Value} {h : rx_H}  {off : Int} (C : rx_at j p R s m args meth c base c0 nL) (hP : rx_P j pc = some (.ifnonnull off)) (kt : True) (kf : rx_K p l e R s m args below meth c Q D dA b base c0 s0 nL (pc + 3, ls, st, h)) : rx_K p l e R s m args below meth c Q D dA b base c0 s0 nL (pc, ls, .null :: st, h) := by
  obtain ⟨hx, hb, hml, hown, hts, hfr, hlo, hin, hz, hbz⟩ := C
  have hk := (rx_P_ok hP).1
  obtain ⟨-, -, -, -, -, ht⟩ := rx_dec hk
  have ht := rx_tgt (of_decide_eq_true ht)
  intro H locs cells slots lc hr hS hl hn hc hs
  subst hn
  exact lv_ifnonnullN hx hb (rx_dec1 hk (fun _ => rfl) rfl) (kf H locs cells slots lc hr hS hl rfl hc hs)
end RXS
