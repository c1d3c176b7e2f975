/-! Calls, and the main theorem. -/
def rx_isr (j : Nat) (i : Instr) (st : List Value) (r : Option Value) : Prop :=
  (i = .ireturn ∧ ∃ v, st = [.int v] ∧ r = some (.int v) ∧ rx_rt (rx_m j).2.2.2.1 v = true) ∨ (i = .lreturn ∧ ∃ v, st = [.long v] ∧ r = some (.long v) ∧ rx_rk (rx_m j).2.2.2.1 = 2) ∨
  (i = .areturn ∧ ∃ v, st = [v] ∧ r = some v ∧ (v = .null ∨ ∃ a, v = .ref a) ∧ rx_rk (rx_m j).2.2.2.1 = 3) ∨ (i = .return_ ∧ st = [] ∧ r = none ∧ rx_rk (rx_m j).2.2.2.1 = 0)
theorem rx_one_inl {call : Nat → List Value → rx_H → Option (Option Value × rx_H)} {j pc : Nat} {ls st : List Value} {h : rx_H} {q : Option Value × rx_H} (e : rx_one call j pc ls st h = some (.inl q)) : ∃ i, rx_P j pc = some i ∧ rx_isr j i st q.1 ∧ q.2 = h := by
  have hcl : ∀ j q, ¬ rx_cl call j pc ls st h = some (.inl q) := by
    intro j q e
    unfold rx_cl at e
    obtain ⟨-, e⟩ := rx_bif e
    split at e <;> cases e
  unfold rx_one at e
  split at e
  · cases e
  · rename_i i hP
    refine ⟨i, hP, ?_⟩
    split at e
    · split at e
      · obtain ⟨e1, e⟩ := rx_bif e; cases e; exact ⟨Or.inl ⟨rfl, _, rfl, rfl, e1⟩, rfl⟩
      · cases e
    · split at e
      · obtain ⟨e1, e⟩ := rx_bif e; cases e; exact ⟨Or.inr (Or.inl ⟨rfl, _, rfl, rfl, Nat.eq_of_beq_eq_true e1⟩), rfl⟩
      · cases e
    · split at e
      · obtain ⟨e1, e⟩ := rx_bif e; cases e; exact ⟨Or.inr (Or.inr (Or.inl ⟨rfl, _, rfl, rfl, Or.inr ⟨_, rfl⟩, Nat.eq_of_beq_eq_true e1⟩)), rfl⟩
      · obtain ⟨e1, e⟩ := rx_bif e; cases e; exact ⟨Or.inr (Or.inr (Or.inl ⟨rfl, _, rfl, rfl, Or.inl rfl, Nat.eq_of_beq_eq_true e1⟩)), rfl⟩
      · cases e
    · split at e
      · obtain ⟨e1, e⟩ := rx_bif e; cases e; exact ⟨Or.inr (Or.inr (Or.inr ⟨rfl, rfl, rfl, Nat.eq_of_beq_eq_true e1⟩)), rfl⟩
      · cases e
    · exact absurd e (hcl _ _)
    · split at e
      · split at e
        · obtain ⟨-, e⟩ := rx_bif e; cases e
        · cases e
      · exact absurd e (hcl _ _)
    · split at e
      · split at e
        · obtain ⟨-, e⟩ := rx_bif e; cases e
        · cases e
      · split at e
        · obtain ⟨-, e⟩ := rx_bif e; cases e
        · cases e
      · split at e
        · obtain ⟨-, e⟩ := rx_bif e; cases e
        · cases e
      · obtain ⟨-, e⟩ := rx_bif e; exact absurd e (hcl _ _)
    · split at e
      · cases e
      · cases e
theorem rx_cl_inv {call : Nat → List Value → rx_H → Option (Option Value × rx_H)} {j pc : Nat} {ls st : List Value} {h : rx_H} {c : rx_C} (e : rx_cl call j pc ls st h = some (.inr c)) : ∃ (as rest : List Value) (q : Option Value × rx_H), st = as.reverse ++ rest ∧ as.length = rx_na j ∧ rx_may j as rest h = true ∧ call j as h = some q ∧ c = (pc + 3, ls, q.1.toList ++ rest, q.2) := by
  unfold rx_cl at e
  obtain ⟨e1, e⟩ := rx_bif e
  rw [Bool.and_eq_true] at e1
  have h1 := Nat.le_of_ble_eq_true e1.1
  split at e
  · cases e
  · rename_i q hq
    cases e
    refine ⟨(st.take (rx_na j)).reverse, st.drop (rx_na j), q, ?_, ?_, e1.2, hq, rfl⟩
    · rw [List.reverse_reverse, List.take_append_drop]
    · rw [List.length_reverse, List.length_take]; omega
theorem rx_inst_ct : (List.range' 1 245).all (fun j => Nat.beq (rx_m j).2.2.2.2.2.1 0 || Nat.blt (rx_m j).2.2.2.2.2.2.1 13) = true := by decide +kernel
theorem rx_mo {j : Nat} (h0 : 0 < j) (h : j < 246) : ((rx_m j).2.2.2.2.2.1 = 0 → j ∈ rx_stat) ∧ ((rx_m j).2.2.2.2.2.1 = 1 → j ∈ rx_virt ∧ j ∈ rx_inst) ∧ ((rx_m j).2.2.2.2.2.1 = 2 → j ∈ rx_inst ∧ (rx_m j).1.name = "<init>" ∧ (rx_m j).2.2.2.1 = none) ∧ (rx_m j).1.cls = rx_own (rx_m j).2.2.2.2.2.2.1 ∧ (rx_m j).1.cls ∈ rx_inis ∧ (rx_m j).1.cls ≠ "java/lang/invoke/MethodHandle" ∧ (rx_m j).1.cls ≠ "java/lang/invoke/VarHandle" ∧ (parseMethodDescriptor (rx_m j).1.desc).map (fun d => d.parameters.length) = some (rx_m j).2.2.2.2.1 ∧ (¬ (rx_m j).2.2.2.2.2.1 = 0 → (rx_m j).2.2.2.2.2.2.1 < 13) := by
  have h1 := List.all_eq_true.mp rx_ms_ok j (List.mem_range'_1.mpr ⟨h0, by omega⟩)
  have h2 := List.all_eq_true.mp rx_inst_ct j (List.mem_range'_1.mpr ⟨h0, by omega⟩)
  simp only [Bool.and_eq_true, decide_eq_true_eq] at h1
  obtain ⟨⟨⟨⟨⟨⟨a1, a2⟩, a3⟩, a4⟩, a5⟩, a6⟩, -⟩ := h1
  refine ⟨fun q => ?_, fun q => ?_, fun q => ?_, a2, a3, a4, a5, a6, fun q => ?_⟩
  · rw [q] at a1; exact of_decide_eq_true a1
  · rw [q] at a1; simp only [Bool.and_eq_true, decide_eq_true_eq] at a1; exact a1
  · rw [q] at a1; simp only [Bool.and_eq_true, decide_eq_true_eq] at a1; exact ⟨a1.1.1, a1.1.2, a1.2⟩
  · rw [Bool.or_eq_true] at h2
    rcases h2 with h2 | h2
    · exact absurd (Nat.eq_of_beq_eq_true h2) q
    · exact rx_blt h2
section RXC
variable {p : Program} {l : Launch} {e : Env} {R : Room} {s : State} {m : MethodId} {args : Array Value} {below : List Frame} {meth : Method} {c : Code} {Q : State → Prop} {D : va_G} {dA : Nat → ClassId} {b base c0 s0 nL : Nat}
theorem rx_called {H : Heap} {locs : List Loc} {cells slots mc ms pc : Nat} {lc : Array Slot} {st0 rest : List Value} {r : Option Value} {h h2 : rx_H} {aa : Array Value}
    (hr : va_Run p l e R s m args below meth c H locs cells slots mc ms (F0 m pc lc st0) rest (rx_Qc D dA b base r h2 aa) (fun q => base ≤ q)) (hS : va_S (fun q => base ≤ q) s.heap H locs) (hrel : rx_rel D dA b base s h H)
    (kk : ∀ (H1 : Heap) (locs1 : List Loc), rx_rel D dA b base s h2 H1 → va_S (fun q => base ≤ q) s.heap H1 locs1 → W p l e R s m args below meth c H1 locs1 (cells + mc) (slots + ms) Q (F0 m (pc + 3) lc ((r.map (rx_mv (rx_ad b base))).toList ++ rest))) :
    W p l e R s m args below meth c H locs cells slots Q (F0 m pc lc st0) := by
  intro T hT X
  obtain ⟨v, st₀, t, T', L, h0, X', hL, e1, e2, ⟨hv, hq, hz, hk⟩, st⟩ := hr T hT X
  have hv' : v = r.map (rx_mv (rx_ad b base)) := by injection hv
  subst hv'
  rw [h0] at hz hk
  have hal : t.vm.Alike s.vm := by rw [← e2]; exact X'.warmed.alike.symm
  obtain ⟨q1, -, q3, q4, L2, q5, q6⟩ := hq
  obtain ⟨t2, a1, b1⟩ := kk T'.heap (locs ++ L) ⟨by rw [e1]; exact q1, hrel.2.1, q3, by rw [e1]; exact q4, L2, q5, by rw [e1]; exact va_X.moved hal q6⟩
    ⟨Nat.le_trans hS.1 (by rw [e1]; exact hz), fun q h1 h2 => by rw [e1, hk q (Nat.lt_of_lt_of_le h1 hS.1) h2]; exact hS.2.1 q h1 h2, fun q hq => by
      rcases List.mem_append.mp hq with h | h
      · exact hS.2.2 q h
      · exact hL q h⟩ T' rfl X'
  exact ⟨t2, st t2 a1, b1⟩
theorem rx_toList (f : Value → Value) (r : Option Value) (rest : List Value) : (r.map f).toList ++ rest.map f = (r.toList ++ rest).map f := by cases r <;> rfl
/-- what a call needs and leaves, whatever its instruction -/
theorem rx_pre {as : List Value} {h : rx_H} {H : Heap} {cells : Nat} (hr : rx_rel D dA b base s h H) (hz : s.heap.size + 1 = base + c0) (hc : cells + c0 = h.1.length) (hsz : H.size ≤ s.heap.size + cells) : ∀ U : State, U.heap = H → s.WarmedH U.vm → rx_Pc D dA b base as h (as.map (rx_mv (rx_ad b base))).toArray U := by
  intro U hU hW
  refine ⟨rfl, ?_, ?_, ?_⟩
  · rw [hU]; exact hr.moved hW
  · rw [hU]; exact rx_size hr hz hc hsz
  · rw [hU]; exact hr.2.2.2.1
theorem rx_fit_room {jc j : Nat} {i : Instr} (h : (Nat.ble ((rx_m j).2.2.2.2.2.2.2.1 + 1) (rx_m jc).2.2.2.2.2.2.2.1 && Nat.ble (8 + ((rx_m j).2.2.1 + 11) + (rx_m j).2.2.2.2.2.2.2.2) (rx_m jc).2.2.2.2.2.2.2.2 && Nat.blt 0 j && Nat.blt j 246) = true) (hfr : (rx_m jc).2.2.2.2.2.2.2.1 ≤ R.frames) (hlo : (rx_m jc).2.2.2.2.2.2.2.2 ≤ R.locals) :
    ((rx_m j).2.2.2.2.2.2.2.1 + 1 ≤ R.frames ∧ 8 + ((rx_m j).2.2.1 + 11) + (rx_m j).2.2.2.2.2.2.2.2 ≤ R.locals) ∧ 0 < j ∧ j < 246 := by
  simp only [Bool.and_eq_true] at h
  exact ⟨⟨Nat.le_trans (Nat.le_of_ble_eq_true h.1.1.1) hfr, Nat.le_trans (Nat.le_of_ble_eq_true h.1.1.2) hlo⟩, rx_blt h.1.2, rx_blt h.2⟩
theorem rx_c_virtual {jc pc j : Nat} {ls : List Value} {h h2 : rx_H} {as rest : List Value} {r : Option Value} (C : rx_at jc p R s m args meth c base c0 nL) (hP : rx_P jc pc = some (.invokevirtual j)) (hn : as.length = rx_na j) (hmay : rx_may j as rest h = true)
    (hM : 0 < j → j < 246 → Jvm.plainName (rx_m j).1.cls = true → rx_Met l D dA b base j as h r h2) (hg : h.1.length ≤ h2.1.length ∧ rx_us h ≤ rx_us h2) (hR : h2.1.length ≤ R.cells + c0 ∧ rx_us h2 ≤ R.slots + s0)
    (k : rx_K p l e R s m args below meth c Q D dA b base c0 s0 nL (pc + 3, ls, r.toList ++ rest, h2)) : rx_K p l e R s m args below meth c Q D dA b base c0 s0 nL (pc, ls, as.reverse ++ rest, h) := by
  obtain ⟨hx, hb, hml, hown, hts, hfr, hlo, hin, hz, hbz⟩ := C
  have hk := (rx_P_ok hP).1
  obtain ⟨hroom, hj0, hj⟩ := rx_fit_room (i := .goto 0) (rx_P_ok hP).2 hfr hlo
  obtain ⟨m1, m2, m3, m4, m5, m6, m7, m8, m9⟩ := rx_mo hj0 hj
  intro H locs cells slots lc hr hS hl hnn hc hs
  have hc : cells + c0 = h.1.length := hc
  have hs : slots + s0 = rx_us h := hs
  obtain ⟨i2, n2, g1, g2, g3, -⟩ := rx_dec hk
  have g4 : n2 = 3 := g3.elim (fun q => by cases q) id
  subst g4
  cases i2 with
  | invokevirtual x =>
    unfold rx_lk at g2
    simp only [Bool.and_eq_true, decide_eq_true_eq] at g2
    have hkd : (rx_m j).2.2.2.2.2.1 = 1 := Nat.eq_of_beq_eq_true g2.2
    have hlk : Cond.methodLink (rx_own (rx_m jc).2.2.2.2.2.2.1) x (rx_m j).1 ∈ rx_tb := rx_kml_in _ (List.mem_map.mpr ⟨_, List.mem_filter.mpr ⟨g2.1, by
      cases hq : Nat.beq j 0 with
      | true => exact absurd (Nat.eq_of_beq_eq_true hq) (by omega)
      | false => rfl⟩, rfl⟩)
    have hpl : Jvm.plainName (rx_m j).1.cls = true := by
      have := List.all_eq_true.mp rx_plain.1 _ g2.1
      rw [Bool.or_eq_true] at this
      rcases this with q | q
      · exact absurd (Nat.eq_of_beq_eq_true q) (by dsimp only; omega)
      · exact q
    unfold rx_may at hmay
    rw [hkd, Bool.and_eq_true, Bool.and_eq_true] at hmay
    obtain ⟨⟨y1, y2⟩, y3⟩ := hmay
    have hna : rx_na j = (rx_m j).2.2.2.2.1 + 1 := by unfold rx_na; rw [hkd]; rfl
    cases as with
    | nil => cases y3
    | cons a0 As =>
      cases a0 with
      | ref i =>
        change (Nat.beq (rx_kind h i) (rx_m j).2.2.2.2.2.2.1 && Nat.blt 0 i) = true at y3
        rw [Bool.and_eq_true] at y3
        obtain ⟨i', rfl⟩ := rx_pos1 y3.2
        have hct := Nat.eq_of_beq_eq_true y3.1
        have hc13 := m9 (by omega)
        obtain ⟨n, w1, -⟩ := rx_kind_spec (by omega) hct
        obtain ⟨qc, hqc⟩ : ∃ q, rx_cls[(rx_m j).2.2.2.2.2.2.1]? = some q := ⟨_, List.getElem?_eq_getElem (by exact hc13)⟩
        obtain ⟨CC, T, N⟩ := qc
        have hCC : (rx_m j).1.cls = CC := m4.trans (rx_own_cls hqc)
        have he := rx_W_get (b := b) (base := base) (dA := dA) (rx_lt_len w1)
        rw [rx_E_obj w1 hc13] at he
        have hrecv := va_recv hr.2.1.1 hr.1 hqc he
        have hAs : As.length = (rx_m j).2.2.2.2.1 := by have := hn; rw [hna] at this; simpa using this
        refine rx_sized (fun hsz => ?_)
        refine rx_called (h := h) (r := r) (h2 := h2) (rest := rest.map (rx_mv (rx_ad b base))) (va_runV (As := As.map (rx_mv (rx_ad b base))) (b := base + i') (n := (rx_m j).2.2.2.2.1) (C := CC) ⟨hx, hb, hml, hown, hts⟩ (hM hj0 hj hpl) (cwV (ws' := rx_gw) (rm := rx_rm j h h2) _ hts ?_ rfl rfl rfl ⟨hCC, m6, m7, m8⟩ hroom) ⟨rx_Pc_blind, hrecv, ?_⟩ rfl ?_ (hl.1) ?_ ?_ g1 ?_) hS hr (fun H1 locs1 hr1 hS1 => ?_)
        · intro w hw
          rcases List.mem_append.mp hw with hw | hw
          · simp only [List.mem_cons, List.not_mem_nil, or_false] at hw
            rcases hw with rfl | rfl | rfl | rfl
            · exact ⟨hlk, good_of_word rfl⟩
            · exact ⟨rx_inst_in _ (List.mem_map.mpr ⟨j, (m2 hkd).2, rfl⟩), good_of_word rfl⟩
            · refine ⟨?_, good_of_word rfl⟩
              have := rx_virt_in _ (List.mem_map.mpr ⟨j, (m2 hkd).1, rfl⟩)
              rw [← hCC]
              exact this
            · exact ⟨rx_inis_in _ (List.mem_map.mpr ⟨CC, by rw [← hCC]; exact m5, rfl⟩), good_of_word rfl⟩
          · exact rx_ws_good hj0 hj w hw
        · exact rx_pre (as := .ref (i' + 1) :: As) hr hz hc hsz
        · rw [List.length_map]; exact hAs
        · show List.map (rx_mv (rx_ad b base)) ((Value.ref (i' + 1) :: As).reverse ++ rest) = _
          rw [List.map_append, List.map_reverse, List.map_cons, List.reverse_cons, List.append_assoc, ← List.map_reverse]
          rfl
        · show 2 * 0 + _ ≤ 8
          rw [rx_mv_sum]
          have := Nat.le_of_ble_eq_true y1
          omega
        · have := hR; have := hg; omega
        · have hk2 := k H1 locs1 (cells + (h2.1.length - h.1.length)) (slots + (rx_us h2 - rx_us h)) lc hr1 hS1 hl hnn (by have := hg.1; dsimp only; omega) (by have := hg.2; dsimp only; omega)
          rw [rx_toList]
          exact hk2
      | _ => cases y3
  | _ => exact absurd g2 (by simp [rx_lk])
end RXC
