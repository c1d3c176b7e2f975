section RXD
variable {p : Program} {l : Launch} {e : Env} {R : Room} {s : State} {m : MethodId} {args : Array Value} {below : List Frame} {meth : Method} {c : Code} {Q : State → Prop} {D : va_G} {dA : Nat → ClassId} {b base c0 s0 nL : Nat}
theorem rx_c_init {jc pc j : Nat} {ls : List Value} {h h2 : rx_H} {as rest : List Value} {r : Option Value} (hj0 : 0 < j) (C : rx_at jc p R s m args meth c base c0 nL) (hP : rx_P jc pc = some (.invokespecial j)) (hn : as.length = rx_na j) (hmay : rx_may j as rest h = true)
    (hM : 0 < j → j < 246 → Jvm.plainName (rx_m j).1.cls = true → rx_Met l D dA b base j as h r h2) (hg : h.1.length ≤ h2.1.length ∧ rx_us h ≤ rx_us h2) (hR : h2.1.length ≤ R.cells + c0 ∧ rx_us h2 ≤ R.slots + s0)
    (k : rx_K p l e R s m args below meth c Q D dA b base c0 s0 nL (pc + 3, ls, r.toList ++ rest, h2)) : rx_K p l e R s m args below meth c Q D dA b base c0 s0 nL (pc, ls, as.reverse ++ rest, h) := by
  obtain ⟨hx, hb, hml, hown, hts, hfr, hlo, hin, hz, hbz⟩ := C
  have hk := (rx_P_ok hP).1
  have hfit := (rx_P_ok hP).2
  have hne : Nat.beq j 0 = false := by
    cases hq : Nat.beq j 0 with
    | true => exact absurd (Nat.eq_of_beq_eq_true hq) (by omega)
    | false => rfl
  unfold rx_fit at hfit
  dsimp only at hfit
  rw [hne] at hfit
  obtain ⟨hroom, -, hj⟩ := rx_fit_room (i := .goto 0) hfit hfr hlo
  obtain ⟨m1, m2, m3, m4, m5, m6, m7, m8, m9⟩ := rx_mo hj0 hj
  intro H locs cells slots lc hr hS hl hnn hc hs
  have hc : cells + c0 = h.1.length := hc
  have hs : slots + s0 = rx_us h := hs
  obtain ⟨i2, n2, g1, g2, g3, -⟩ := rx_dec hk
  have g4 : n2 = 3 := g3.elim (fun q => by cases q) id
  subst g4
  cases i2 with
  | invokespecial x =>
    unfold rx_lk at g2
    dsimp only at g2
    rw [hne, Bool.false_or] at g2
    simp only [Bool.and_eq_true, decide_eq_true_eq] at g2
    have hkd : (rx_m j).2.2.2.2.2.1 = 2 := Nat.eq_of_beq_eq_true g2.2
    have hlk : Cond.methodLink (rx_own (rx_m jc).2.2.2.2.2.2.1) x (rx_m j).1 ∈ rx_tb := rx_kml_in _ (List.mem_map.mpr ⟨_, List.mem_filter.mpr ⟨g2.1, by dsimp only; rw [hne]; rfl⟩, rfl⟩)
    have hpl : Jvm.plainName (rx_m j).1.cls = true := by
      have := List.all_eq_true.mp rx_plain.1 _ g2.1
      dsimp only at this
      rw [hne, Bool.false_or] at this
      exact this
    unfold rx_may at hmay
    rw [hkd, Bool.and_eq_true, Bool.and_eq_true] at hmay
    obtain ⟨⟨y1, y2⟩, y3⟩ := hmay
    have hna : rx_na j = (rx_m j).2.2.2.2.1 + 1 := by unfold rx_na; rw [hkd]; rfl
    cases as with
    | nil => cases y3
    | cons a0 As =>
      cases a0 with
      | ref i =>
        change (Nat.beq (rx_kind h i) (rx_m j).2.2.2.2.2.2.1 && Nat.blt 0 i) = true at y3
        rw [Bool.and_eq_true] at y3
        obtain ⟨i', rfl⟩ := rx_pos1 y3.2
        have hAs : As.length = (rx_m j).2.2.2.2.1 := by have := hn; rw [hna] at this; simpa using this
        have hret := (m3 hkd).2.2
        refine rx_sized (fun hsz => ?_)
        refine rx_called (h := h) (r := r) (h2 := h2) (rest := rest.map (rx_mv (rx_ad b base))) (va_runI (bytes := (rx_m j).2.1) (As := As.map (rx_mv (rx_ad b base))) (b := base + i') (n := (rx_m j).2.2.2.2.1) ⟨hx, hb, hml, hown, hts⟩ (hM hj0 hj hpl) (cwI (bytes := (rx_m j).2.1) (ws' := rx_gw) (rm := rx_rm j h h2) _ hts (rx_ws_good hj0 hj) ?_ rfl rfl (hts _ (rx_inis_in _ (List.mem_map.mpr ⟨_, m5, rfl⟩))) (hts _ hlk) (hts _ (rx_inst_in _ (List.mem_map.mpr ⟨j, (m3 hkd).1, rfl⟩))) (m3 hkd).2.1 ⟨m6, m7, m8⟩ hroom) ⟨rx_Pc_blind, ?_⟩ rfl ?_ (hl.1) ?_ ?_ g1 ?_) hS hr (fun H1 locs1 hr1 hS1 => ?_)
        · show rx_codew j :: rx_gw = _
          unfold rx_codew
          rw [hret]
        · exact rx_pre (as := .ref (i' + 1) :: As) hr hz hc hsz
        · rw [List.length_map]; exact hAs
        · show List.map (rx_mv (rx_ad b base)) ((Value.ref (i' + 1) :: As).reverse ++ rest) = _
          rw [List.map_append, List.map_reverse, List.map_cons, List.reverse_cons, List.append_assoc, ← List.map_reverse]
          rfl
        · show 2 * 0 + _ ≤ 8
          rw [rx_mv_sum]
          have := Nat.le_of_ble_eq_true y1
          omega
        · have := hR; have := hg; omega
        · have hk2 := k H1 locs1 (cells + (h2.1.length - h.1.length)) (slots + (rx_us h2 - rx_us h)) lc hr1 hS1 hl hnn (by have := hg.1; dsimp only; omega) (by have := hg.2; dsimp only; omega)
          rw [rx_toList]
          exact hk2
      | _ => cases y3
  | _ => exact absurd g2 (by simp [rx_lk])
theorem rx_c_static {jc pc ji j : Nat} {ls : List Value} {h h2 : rx_H} {as rest : List Value} {r : Option Value} (hji : 0 < ji) (hji2 : ji < 2000) (hjj : j = ji % 1000) (C : rx_at jc p R s m args meth c base c0 nL) (hP : rx_P jc pc = some (.invokestatic ji)) (hn : as.length = rx_na j) (hmay : rx_may j as rest h = true)
    (hM : 0 < j → j < 246 → Jvm.plainName (rx_m j).1.cls = true → rx_Met l D dA b base j as h r h2) (hg : h.1.length ≤ h2.1.length ∧ rx_us h ≤ rx_us h2) (hR : h2.1.length ≤ R.cells + c0 ∧ rx_us h2 ≤ R.slots + s0)
    (k : rx_K p l e R s m args below meth c Q D dA b base c0 s0 nL (pc + 3, ls, r.toList ++ rest, h2)) : rx_K p l e R s m args below meth c Q D dA b base c0 s0 nL (pc, ls, as.reverse ++ rest, h) := by
  obtain ⟨hx, hb, hml, hown, hts, hfr, hlo, hin, hz, hbz⟩ := C
  have hk := (rx_P_ok hP).1
  have hfit := (rx_P_ok hP).2
  have hne : Nat.beq ji 0 = false := by
    cases hq : Nat.beq ji 0 with
    | true => exact absurd (Nat.eq_of_beq_eq_true hq) (by omega)
    | false => rfl
  have hn2 : Nat.ble 2000 ji = false := by
    cases hq : Nat.ble 2000 ji with
    | true => exact absurd (Nat.le_of_ble_eq_true hq) (by omega)
    | false => rfl
  unfold rx_fit at hfit
  dsimp only at hfit
  rw [hne, hn2, ← hjj] at hfit
  obtain ⟨hroom, hj0, hj⟩ := rx_fit_room (i := .goto 0) hfit hfr hlo
  obtain ⟨m1, m2, m3, m4, m5, m6, m7, m8, m9⟩ := rx_mo hj0 hj
  intro H locs cells slots lc hr hS hl hnn hc hs
  have hc : cells + c0 = h.1.length := hc
  have hs : slots + s0 = rx_us h := hs
  obtain ⟨i2, n2, g1, g2, g3, -⟩ := rx_dec hk
  have g4 : n2 = 3 := g3.elim (fun q => by cases q) id
  subst g4
  cases i2 with
  | invokestatic x =>
    unfold rx_lk at g2
    dsimp only at g2
    rw [hn2] at g2
    have hst : (rx_m j).2.2.2.2.2.1 = 0 ∧ Jvm.plainName (rx_m j).1.cls = true ∧ ((ji < 1000 ∧ Cond.methodLink (rx_own (rx_m jc).2.2.2.2.2.2.1) x (rx_m j).1 ∈ rx_tb) ∨ va_Nw (.methodLinkNest (rx_own (rx_m jc).2.2.2.2.2.2.1) x (rx_m j).1 "CartFloor") s) := by
      cases hq : Nat.blt ji 1000 with
      | true =>
        have hlt := rx_blt hq
        have ej : ji = j := by omega
        rw [hq] at g2
        simp only [cond_false, cond_true, hne, Bool.false_or, Bool.and_eq_true, decide_eq_true_eq] at g2
        rw [ej] at g2
        refine ⟨Nat.eq_of_beq_eq_true g2.2, ?_, Or.inl ⟨hlt, rx_kml_in _ (List.mem_map.mpr ⟨_, List.mem_filter.mpr ⟨g2.1, by dsimp only; rw [← ej, hne]; rfl⟩, rfl⟩)⟩⟩
        have := List.all_eq_true.mp rx_plain.1 _ g2.1
        dsimp only at this
        rw [← ej, hne, Bool.false_or] at this
        rw [← ej]
        exact this
      | false =>
        rw [hq] at g2
        simp only [cond_false, Bool.and_eq_true, decide_eq_true_eq, ← hjj] at g2
        refine ⟨Nat.eq_of_beq_eq_true g2.2, ?_, Or.inr ?_⟩
        · have := List.all_eq_true.mp rx_plain.2 _ g2.1
          dsimp only at this
          rw [← hjj] at this
          exact this
        · have := hr.2.1.2.1 _ (List.mem_map.mpr ⟨_, g2.1, rfl⟩)
          unfold rx_nlw at this
          dsimp only at this
          rw [← hjj] at this
          exact this
    obtain ⟨hkd, hpl, hlk⟩ := hst
    unfold rx_may at hmay
    rw [hkd, Bool.and_eq_true, Bool.and_eq_true] at hmay
    obtain ⟨⟨y1, y2⟩, -⟩ := hmay
    have hna : rx_na j = (rx_m j).2.2.2.2.1 := by unfold rx_na; rw [hkd]; rfl
    have hsm := hts _ (rx_stat_in _ (List.mem_map.mpr ⟨j, m1 hkd, rfl⟩))
    have hini := hts _ (rx_inis_in _ (List.mem_map.mpr ⟨_, m5, rfl⟩))
    refine rx_sized (fun hsz => ?_)
    have hrun : va_Run p l e R s m args below meth c H locs cells slots (h2.1.length - h.1.length) (rx_us h2 - rx_us h) (F0 m pc lc ((as.reverse ++ rest).map (rx_mv (rx_ad b base)))) (rest.map (rx_mv (rx_ad b base))) (rx_Qc D dA b base r h2 (as.map (rx_mv (rx_ad b base))).toArray) (fun q => base ≤ q) := by
      have a1 : (as.map (rx_mv (rx_ad b base))).length = (rx_m j).2.2.2.2.1 := by rw [List.length_map, hn, hna]
      have a2 : (as.reverse ++ rest).map (rx_mv (rx_ad b base)) = (as.map (rx_mv (rx_ad b base))).reverse ++ rest.map (rx_mv (rx_ad b base)) := by rw [List.map_append, List.map_reverse]
      have a3 : 2 * (F0 m pc lc ((as.reverse ++ rest).map (rx_mv (rx_ad b base)))).monitorRoom + ((rest.map (rx_mv (rx_ad b base))).map fun v => v.category).sum ≤ 8 := by
        show 2 * 0 + _ ≤ 8
        rw [rx_mv_sum]
        have := Nat.le_of_ble_eq_true y1
        omega
      have a4 : cells + (h2.1.length - h.1.length) ≤ R.cells ∧ slots + (rx_us h2 - rx_us h) ≤ R.slots := by have := hR; have := hg; omega
      rcases hlk with ⟨-, hlk⟩ | hlk
      · exact va_runS ⟨hx, hb, hml, hown, hts⟩ (hM hj0 hj hpl) ⟨callB_of _ hts (rx_ws_good hj0 hj) (show rx_ws j = _ :: rx_gw from rfl) rfl rfl hini (hts _ hlk) ⟨m6, m7, m8⟩ hroom, hsm⟩ ⟨rx_Pc_blind, rx_pre hr hz hc hsz⟩ rfl a1 hl.1 a2 a3 g1 a4
      · exact va_runSN ⟨hx, hb, hml, hown, hts⟩ (hM hj0 hj hpl) ⟨va_cnB _ hts (rx_ws_good hj0 hj) (show rx_ws j = _ :: rx_gw from rfl) rfl rfl hlk hini ⟨m6, m7, m8⟩ hroom, hsm, trivial⟩ ⟨rx_Pc_blind, rx_pre hr hz hc hsz⟩ rfl a1 hl.1 a2 a3 g1 a4
    refine rx_called (h := h) (r := r) (h2 := h2) hrun hS hr (fun H1 locs1 hr1 hS1 => ?_)
    have hk2 := k H1 locs1 (cells + (h2.1.length - h.1.length)) (slots + (rx_us h2 - rx_us h)) lc hr1 hS1 hl hnn (by have := hg.1; dsimp only; omega) (by have := hg.2; dsimp only; omega)
    rw [rx_toList]
    exact hk2
  | _ => exact absurd g2 (by simp [rx_lk])
end RXD
