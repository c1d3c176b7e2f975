/-! The main theorem. -/
/-- what is asked at a method's end -/
def rx_end (j : Nat) (p : Program) (l : Launch) (e : Env) (R : Room) (s : State) (m : MethodId) (args : Array Value) (below : List Frame) (meth : Method) (c : Code) (Q : State → Prop) (D : va_G) (dA : Nat → ClassId) (b base c0 s0 : Nat) (r : Option Value) (h2 : rx_H) : Prop :=
  ∀ (pc : Nat) (i : Instr) (st : List Value), rx_P j pc = some i → rx_isr j i st r → ∀ (H : Heap) (locs : List Loc) (cells slots : Nat) (lc : Array Slot), rx_rel D dA b base s h2 H → va_S (fun q => base ≤ q) s.heap H locs → cells + c0 = h2.1.length → slots + s0 = rx_us h2 →
    W p l e R s m args below meth c H locs cells slots Q (F0 m pc lc (st.map (rx_mv (rx_ad b base))))
def rx_Sound (l : Launch) (D : va_G) (dA : Nat → ClassId) (b base n : Nat) : Prop :=
  ∀ (j pc : Nat) (ls st : List Value) (h : rx_H) (r : Option Value) (h2 : rx_H), rx_run n j pc ls st h = some (r, h2) → ∀ (p : Program) (e : Env) (R : Room) (s : State) (m : MethodId) (args : Array Value) (below : List Frame) (meth : Method) (c : Code) (Q : State → Prop) (c0 s0 nL : Nat),
    rx_at j p R s m args meth c base c0 nL → h2.1.length ≤ R.cells + c0 ∧ rx_us h2 ≤ R.slots + s0 → rx_end j p l e R s m args below meth c Q D dA b base c0 s0 r h2 → rx_K p l e R s m args below meth c Q D dA b base c0 s0 nL (pc, ls, st, h)
theorem rx_rt_spec {r : Option FieldType} {v : Int32} (h : rx_rt r v = true) : ∃ ty, r = some ty ∧ narrow ty (.int v) = .int v := by
  cases r with
  | none => cases h
  | some ty =>
    cases ty <;> first | exact ⟨_, rfl, rfl⟩ | (cases h; done) | skip
    have h2 : v = 0 ∨ v = 1 := of_decide_eq_true h
    refine ⟨_, rfl, ?_⟩
    rcases h2 with rfl | rfl <;> decide +kernel
theorem rx_rk_spec {r : Option FieldType} : (rx_rk r = 0 → r = none) ∧ (rx_rk r = 2 → r = some .long) ∧ (rx_rk r = 3 → ∃ n, r = some (.object n)) := by
  cases r with
  | none => exact ⟨fun _ => rfl, fun h => (by cases h), fun h => (by cases h)⟩
  | some ty => cases ty <;> first | exact ⟨fun h => (by cases h), fun h => rfl, fun h => (by cases h)⟩ | exact ⟨fun h => (by cases h), fun h => (by cases h), fun h => ⟨_, rfl⟩⟩ | exact ⟨fun h => (by cases h), fun h => (by cases h), fun h => (by cases h)⟩
/-- a method's contract out of the main theorem -/
theorem rx_met {l : Launch} {D : va_G} {dA : Nat → ClassId} {b base n : Nat} (ih : rx_Sound l D dA b base n) {j : Nat} {as : List Value} {h : rx_H} {q : Option Value × rx_H} (hrun : rx_run n j 0 (rx_args (rx_m j).2.2.1 as) [] h = some q) (hlen : (rx_sl2 as).length ≤ (rx_m j).2.2.1) (h0 : 0 < j) (hj : j < 246) (hpl : Jvm.plainName (rx_m j).1.cls = true) : rx_Met l D dA b base j as h q.1 q.2 := by
  obtain ⟨r, h2⟩ := q
  obtain ⟨mo1, mo2⟩ := rx_mono n hrun
  dsimp only at mo1 mo2
  obtain ⟨m1, m2, m3, m4, m5, m6, m7, m8, m9⟩ := rx_mo h0 hj
  unfold rx_Met
  refine Met.ofW (cc := (rx_m j).2.1) (maxL := (rx_m j).2.2.1) (ret := (rx_m j).2.2.2.1) (ws' := rx_gw) hpl rfl ?_
  intro p e s m args below meth c s₁ B hml hv
  obtain ⟨rfl, hrel, hsz, hbz⟩ := hv
  have hx := B.exec
  have hb := B.bytes
  have hr := B.returns
  have hts0 := atoms_spec (ws := rx_ws j) B.pre
  have hown : s.vm.findClass (rx_m j).1.cls = some m.cls := findClass_of_methodNamed B.named
  have hlocks := B.notSynchronized
  have hts : ∀ w ∈ rx_tb, w.before (as.map (rx_mv (rx_ad b base))).toArray s = true := rx_words_all (fun w hw => hts0 w (List.mem_cons_of_mem _ hw)) hrel.2.1
  have hC : rx_at j p (rx_rm j h h2) s m (as.map (rx_mv (rx_ad b base))).toArray meth c base h.1.length (rx_m j).2.2.1 := by
    refine ⟨hx, hb, hml, by rw [← m4]; exact hown, hts, Nat.le_refl _, Nat.le_refl _, fun hq => ?_, hsz, hbz⟩
    rw [(name_of_methodNamed B.named B.method).1]
    exact (m3 (Nat.eq_of_beq_eq_true hq)).2.1
  have hend : rx_end j p l e (rx_rm j h h2) s m (as.map (rx_mv (rx_ad b base))).toArray below meth c (MQ below (rx_Qc D dA b base r h2) (as.map (rx_mv (rx_ad b base))).toArray s (h2.1.length - h.1.length) (rx_us h2 - rx_us h) (fun q => base ≤ q)) D dA b base h.1.length (rx_us h) r h2 := by
    intro pc i st hP hisr H locs cells slots lc hr2 hS hc hs
    have ec : h2.1.length - h.1.length = cells := by omega
    have es : rx_us h2 - rx_us h = slots := by omega
    rw [ec, es]
    have hk := (rx_P_ok hP).1
    have hq : ∀ (v : Option Value) (t : State), r.map (rx_mv (rx_ad b base)) = v → t.heap = H → s.WarmedH t.vm → rx_Qc D dA b base r h2 (as.map (rx_mv (rx_ad b base))).toArray s (.returned v) t := by
      intro v t hv ht hW
      subst hv
      refine ⟨rfl, ?_, hS.F ht⟩
      rw [ht]
      exact hr2.moved hW
    rcases hisr with ⟨rfl, v, rfl, rfl, hrt⟩ | ⟨rfl, v, rfl, rfl, hrk⟩ | ⟨rfl, v, rfl, rfl, hv, hrk⟩ | ⟨rfl, rfl, rfl, hrk⟩
    · obtain ⟨ty, hty, hnar⟩ := rx_rt_spec hrt
      exact W.zret (v := v) (ty := ty) hx hb (hr.trans hty) hnar (fun t ht hW => hq _ t rfl ht hW) hS.2.2 (rx_dec1 hk (fun _ => rfl) rfl) hlocks
    · exact W.lret (v := v) hx hb (hr.trans (rx_rk_spec.2.1 hrk)) (fun t ht hW => hq _ t rfl ht hW) hS.2.2 (rx_dec1 hk (fun _ => rfl) rfl) hlocks
    · obtain ⟨nm, hnm⟩ := rx_rk_spec.2.2 hrk
      exact W.aret (v := rx_mv (rx_ad b base) v) hx hb (hr.trans hnm) (Or.inl ⟨nm, rfl⟩) (by rcases hv with rfl | ⟨a, rfl⟩; exact Or.inl rfl; exact Or.inr ⟨_, rfl⟩) (fun t ht hW => hq _ t rfl ht hW) hS.2.2 (rx_dec1 hk (fun _ => rfl) rfl) hlocks
    · exact W.vret hx hb (hr.trans (rx_rk_spec.1 hrk)) (fun t ht hW => hq _ t rfl ht hW) hS.2.2 (rx_dec1 hk (fun _ => rfl) rfl) hlocks
  have hK := ih j 0 _ [] h r h2 hrun p e (rx_rm j h h2) s m _ below meth c _ h.1.length (rx_us h) (rx_m j).2.2.1 hC ⟨by show _ ≤ h2.1.length - h.1.length + _; omega, by show _ ≤ rx_us h2 - rx_us h + _; omega⟩ hend
  rw [lg_entry_eq]
  exact hK s.heap [] 0 0 _ hrel va_S.rf (rx_entry hlen) (rx_args_len hlen) (Nat.zero_add _) (Nat.zero_add _)
set_option maxHeartbeats 4000000 in
theorem rx_sound {l : Launch} {D : va_G} {dA : Nat → ClassId} {b base : Nat} : ∀ n, rx_Sound l D dA b base n
  | 0 => fun j pc ls st h r h2 hrun => by cases hrun
  | n + 1 => by
    have ih : rx_Sound l D dA b base n := rx_sound n
    intro j pc ls st h r h2 hrun p e R s m args below meth c Q c0 s0 nL C hR hend
    rw [rx_run] at hrun
    split at hrun
    · cases hrun
    · rename_i q hq
      cases hrun
      obtain ⟨i, hP, hisr, rfl⟩ := rx_one_inl hq
      intro H locs cells slots lc hr hS hl hnn hc hs
      exact hend pc i st hP hisr H locs cells slots lc hr hS hc hs
    · rename_i g hg
      have hmono := rx_mono n hrun
      have hR2 : g.2.2.2.1.length ≤ R.cells + c0 ∧ rx_us g.2.2.2 ≤ R.slots + s0 := ⟨Nat.le_trans hmono.1 hR.1, Nat.le_trans hmono.2 hR.2⟩
      have k : rx_K p l e R s m args below meth c Q D dA b base c0 s0 nL g := ih j _ _ _ _ r h2 hrun p e R s m args below meth c Q c0 s0 nL C hR hend
      clear hrun hmono hend
      have hmet : ∀ (j' : Nat) (as rest : List Value) (q : Option Value × rx_H), rx_may j' as rest h = true → rx_run n j' 0 (rx_args (rx_m j').2.2.1 as) [] h = some q → 0 < j' → j' < 246 → Jvm.plainName (rx_m j').1.cls = true → rx_Met l D dA b base j' as h q.1 q.2 := by
        intro j' as rest q hmay hq h1 h2 h3
        unfold rx_may at hmay
        rw [Bool.and_eq_true, Bool.and_eq_true] at hmay
        exact rx_met ih hq (Nat.le_of_ble_eq_true hmay.1.2) h1 h2 h3
      unfold rx_one at hg
      split at hg
      · cases hg
      · rename_i i hP
        split at hg
        · split at hg
          · obtain ⟨-, hg⟩ := rx_bif hg; cases hg
          · cases hg
        · split at hg
          · obtain ⟨-, hg⟩ := rx_bif hg; cases hg
          · cases hg
        · split at hg
          · obtain ⟨-, hg⟩ := rx_bif hg; cases hg
          · obtain ⟨-, hg⟩ := rx_bif hg; cases hg
          · cases hg
        · split at hg
          · obtain ⟨-, hg⟩ := rx_bif hg; cases hg
          · cases hg
        · obtain ⟨as, rest, q, rfl, hn, hmay, hcall, rfl⟩ := rx_cl_inv hg
          exact rx_c_virtual C hP hn hmay (hmet _ as rest q hmay hcall) (rx_mono n hcall) hR2 k
        · split at hg
          · split at hg
            · obtain ⟨e1, hg⟩ := rx_bif hg; cases hg
              exact rx_s_objinit C hP (Nat.le_of_ble_eq_true e1) k
            · cases hg
          · obtain ⟨as, rest, q, rfl, hn, hmay, hcall, rfl⟩ := rx_cl_inv hg
            exact rx_c_init (Nat.succ_pos _) C hP hn hmay (hmet _ as rest q hmay hcall) (rx_mono n hcall) hR2 k
        · split at hg
          · split at hg
            · rename_i kk dp d sp sr rest
              obtain ⟨e1, hg⟩ := rx_bif hg; cases hg
              rw [Bool.and_eq_true] at e1
              obtain ⟨e1, e2⟩ := e1
              unfold rx_cpo at e2
              simp only [Bool.and_eq_true, decide_eq_true_eq] at e2
              obtain ⟨⟨⟨⟨⟨⟨⟨⟨⟨⟨a1, a2⟩, a3⟩, a4⟩, a5⟩, a6⟩, a7⟩, a8⟩, a9⟩, a10⟩, a11⟩ := e2
              obtain ⟨s1, rfl⟩ := rx_pos1 a1
              obtain ⟨d1, rfl⟩ := rx_pos1 a2
              have b3 := Nat.eq_of_beq_eq_true a3
              have b4 := Nat.le_of_ble_eq_true a4
              have b5 := Nat.le_of_ble_eq_true a5
              have b9 := Nat.le_of_ble_eq_true a9
              have b10 := Nat.le_of_ble_eq_true a10
              have hcat := Nat.le_of_ble_eq_true e1
              obtain ⟨n0, w1, w2⟩ := rx_kind_spec (h := h) (i := s1 + 1) (by omega) rfl
              obtain ⟨n1, w3, w4⟩ := rx_kind_spec (h := h) (i := d1 + 1) (by omega) rfl
              rw [← b3] at w3
              rw [w2] at b9
              rw [w4] at b10
              rcases (show rx_kind h (s1 + 1) = 13 ∨ rx_kind h (s1 + 1) = 14 ∨ rx_kind h (s1 + 1) = 15 ∨ rx_kind h (s1 + 1) = 16 by omega) with t | t | t | t
              · rw [t] at w1 w3 a11
                have k2 := k
                unfold rx_cpy at k2
                rw [t] at k2
                refine rx_s_copy13 C hP hcat w1 w3 a6 a7 a8 b9 b10 (fun i hi => ?_) k2
                rw [Bool.or_eq_true, Bool.or_eq_true] at a11
                rcases a11 with (z | z) | z
                · cases z
                · cases z
                · exact List.all_eq_true.mp z i (List.mem_range.mpr hi)
              · rw [t] at w1 w3
                have k2 := k
                unfold rx_cpy at k2
                rw [t] at k2
                exact rx_s_copy14 C hP hcat w1 w3 a6 a7 a8 b9 b10 k2
              · rw [t] at w1 w3
                have k2 := k
                unfold rx_cpy at k2
                rw [t] at k2
                exact rx_s_copy15 C hP hcat w1 w3 a6 a7 a8 b9 b10 k2
              · rw [t] at w1 w3 a11
                have k2 := k
                unfold rx_cpy at k2
                rw [t] at k2
                refine rx_s_copy16 C hP hcat w1 w3 a6 a7 a8 b9 b10 (fun i hi => ?_) k2
                rw [Bool.or_eq_true, Bool.or_eq_true] at a11
                rcases a11 with (z | z) | z
                · cases z
                · cases z
                · exact List.all_eq_true.mp z i (List.mem_range.mpr hi)
            · cases hg
          · split at hg
            · obtain ⟨e1, hg⟩ := rx_bif hg; cases hg
              exact rx_s_max C hP (Nat.le_of_ble_eq_true e1) hR2 k
            · cases hg
          · split at hg
            · obtain ⟨e1, hg⟩ := rx_bif hg; cases hg
              exact rx_s_min C hP (Nat.le_of_ble_eq_true e1) hR2 k
            · cases hg
          · obtain ⟨e1, hg⟩ := rx_bif hg
            obtain ⟨as, rest, q, rfl, hn, hmay, hcall, rfl⟩ := rx_cl_inv hg
            exact rx_c_static (Nat.succ_pos _) (rx_blt e1) rfl C hP hn hmay (hmet _ as rest q hmay hcall) (rx_mono n hcall) hR2 k
        · split at hg
          · cases hg
          · rename_i hx; cases hg
            exact rx_step C hP hx hR2 k
