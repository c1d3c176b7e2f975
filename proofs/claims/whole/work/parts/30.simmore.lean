/-! Arrays are made and copied; switches; Math. -/
section RXM
variable {p : Program} {l : Launch} {e : Env} {R : Room} {s : State} {m : MethodId} {args : Array Value} {below : List Frame} {meth : Method} {c : Code} {Q : State → Prop} {D : va_G} {dA : Nat → ClassId} {b base c0 s0 nL : Nat}
theorem rx_s_newarray13 {j pc : Nat} {ls st : List Value} {h : rx_H} {x : Int32} (C : rx_at j p R s m args meth c base c0 nL) (hP : rx_P j pc = some (.newarray .byte)) (h1 : ¬ x < 0) (h2 : x.toNatClampNeg ≤ 1000000) (hR : (rx_nw h 13 x.toNatClampNeg).1.length ≤ R.cells + c0 ∧ rx_us (rx_nw h 13 x.toNatClampNeg) ≤ R.slots + s0) (k : rx_K p l e R s m args below meth c Q D dA b base c0 s0 nL (pc + 2, ls, .ref h.1.length :: st, rx_nw h 13 x.toNatClampNeg)) : rx_K p l e R s m args below meth c Q D dA b base c0 s0 nL (pc, ls, .int x :: st, h) := by
  obtain ⟨hx, hb, hml, hown, hts, hfr, hlo, hin, hz, hbz⟩ := C
  have hk := (rx_P_ok hP).1
  intro H locs cells slots lc hr hS hl hn hc hs
  subst hn
  have hc : cells + c0 = h.1.length := hc
  have hs : slots + s0 = rx_us h := hs
  have h0 : 0 < h.1.length := rx_len_pos hr.2.2.2.2.choose_spec.1
  have hlen : (rx_nw h 13 x.toNatClampNeg).1.length = h.1.length + 1 := by unfold rx_nw; simp
  have hcells : cells + 1 ≤ R.cells := by have := hR.1; omega
  have hslots : slots + x.toNatClampNeg ≤ R.slots := by have := hR.2; rw [rx_us_nw] at this; omega
  refine va_newa (a0 := (x.toNatClampNeg, .inl (fun _ => 0))) (ty := .byte) hx hb (hts _ (rx_arr_in _ (by decide +kernel))) rfl hr.2.1.1 hr.1 rx_W_D hS (fun q hq => Nat.le_trans hbz hq) (fun cA => rfl) h1 rfl ?_ hcells hslots (rx_dec1 hk (fun _ => rfl) rfl) (fun q cA H1 hK1 hP1 hD1 hS1 => ?_)
  · show x.toNatClampNeg * 1 ≤ 536870912
    omega
  · have hcA : cA = dA 13 := by
      have q1 := (hK1.2 6 (cA, .byte) rfl).2
      have q2 := (hr.2.1.1.2 0 (dA 13, .byte) rfl).2
      exact Option.some.inj (q1.symm.trans q2)
    subst hcA
    have hE : (Sum.inl (dA 13, x.toNatClampNeg, .inl (fun _ => 0)) : va_E) = rx_E (rx_ad b base) dA (rx_nw h 13 x.toNatClampNeg) h.1.length := by
      rw [rx_E_arr rx_nw_get (by decide), rx_av_i (by decide) (by decide)]
      have e1 : (rx_nw h 13 x.toNatClampNeg).2.1 h.1.length = fun _ => 0 := rx_row_eq
      have e2 : (rx_nw h 13 x.toNatClampNeg).2.2.1 h.1.length = fun _ => 0 := rx_row_eq
      first | rw [e1] | rw [e2]
    refine rx_sized (fun hsz => ?_)
    have hpl := rx_place hP1 hD1 hz hc hsz h0
    have := k H1 locs (cells + 1) (slots + x.toNatClampNeg) lc (rx_rel_new hr hpl hE hP1 hbz hS hS1) hS1 hl rfl (by rw [hlen]; omega) (by rw [rx_us_nw]; omega)
    rw [List.map_cons] at this
    have e4 : rx_mv (rx_ad b base) (.ref h.1.length) = .ref q := by
      rw [hpl]
      show Value.ref (rx_ad b base h.1.length) = _
      obtain ⟨z, hz2⟩ : ∃ z, h.1.length = z + 1 := ⟨h.1.length - 1, by omega⟩
      rw [hz2]
      rfl
    rw [e4] at this
    exact this
theorem rx_s_newarray14 {j pc : Nat} {ls st : List Value} {h : rx_H} {x : Int32} (C : rx_at j p R s m args meth c base c0 nL) (hP : rx_P j pc = some (.newarray .int)) (h1 : ¬ x < 0) (h2 : x.toNatClampNeg ≤ 1000000) (hR : (rx_nw h 14 x.toNatClampNeg).1.length ≤ R.cells + c0 ∧ rx_us (rx_nw h 14 x.toNatClampNeg) ≤ R.slots + s0) (k : rx_K p l e R s m args below meth c Q D dA b base c0 s0 nL (pc + 2, ls, .ref h.1.length :: st, rx_nw h 14 x.toNatClampNeg)) : rx_K p l e R s m args below meth c Q D dA b base c0 s0 nL (pc, ls, .int x :: st, h) := by
  obtain ⟨hx, hb, hml, hown, hts, hfr, hlo, hin, hz, hbz⟩ := C
  have hk := (rx_P_ok hP).1
  intro H locs cells slots lc hr hS hl hn hc hs
  subst hn
  have hc : cells + c0 = h.1.length := hc
  have hs : slots + s0 = rx_us h := hs
  have h0 : 0 < h.1.length := rx_len_pos hr.2.2.2.2.choose_spec.1
  have hlen : (rx_nw h 14 x.toNatClampNeg).1.length = h.1.length + 1 := by unfold rx_nw; simp
  have hcells : cells + 1 ≤ R.cells := by have := hR.1; omega
  have hslots : slots + x.toNatClampNeg ≤ R.slots := by have := hR.2; rw [rx_us_nw] at this; omega
  refine va_newa (a0 := (x.toNatClampNeg, .inl (fun _ => 0))) (ty := .int) hx hb (hts _ (rx_arr_in _ (by decide +kernel))) rfl hr.2.1.1 hr.1 rx_W_D hS (fun q hq => Nat.le_trans hbz hq) (fun cA => rfl) h1 rfl ?_ hcells hslots (rx_dec1 hk (fun _ => rfl) rfl) (fun q cA H1 hK1 hP1 hD1 hS1 => ?_)
  · show x.toNatClampNeg * 4 ≤ 536870912
    omega
  · have hcA : cA = dA 14 := by
      have q1 := (hK1.2 6 (cA, .int) rfl).2
      have q2 := (hr.2.1.1.2 1 (dA 14, .int) rfl).2
      exact Option.some.inj (q1.symm.trans q2)
    subst hcA
    have hE : (Sum.inl (dA 14, x.toNatClampNeg, .inl (fun _ => 0)) : va_E) = rx_E (rx_ad b base) dA (rx_nw h 14 x.toNatClampNeg) h.1.length := by
      rw [rx_E_arr rx_nw_get (by decide), rx_av_i (by decide) (by decide)]
      have e1 : (rx_nw h 14 x.toNatClampNeg).2.1 h.1.length = fun _ => 0 := rx_row_eq
      have e2 : (rx_nw h 14 x.toNatClampNeg).2.2.1 h.1.length = fun _ => 0 := rx_row_eq
      first | rw [e1] | rw [e2]
    refine rx_sized (fun hsz => ?_)
    have hpl := rx_place hP1 hD1 hz hc hsz h0
    have := k H1 locs (cells + 1) (slots + x.toNatClampNeg) lc (rx_rel_new hr hpl hE hP1 hbz hS hS1) hS1 hl rfl (by rw [hlen]; omega) (by rw [rx_us_nw]; omega)
    rw [List.map_cons] at this
    have e4 : rx_mv (rx_ad b base) (.ref h.1.length) = .ref q := by
      rw [hpl]
      show Value.ref (rx_ad b base h.1.length) = _
      obtain ⟨z, hz2⟩ : ∃ z, h.1.length = z + 1 := ⟨h.1.length - 1, by omega⟩
      rw [hz2]
      rfl
    rw [e4] at this
    exact this
theorem rx_s_newarray15 {j pc : Nat} {ls st : List Value} {h : rx_H} {x : Int32} (C : rx_at j p R s m args meth c base c0 nL) (hP : rx_P j pc = some (.newarray .long)) (h1 : ¬ x < 0) (h2 : x.toNatClampNeg ≤ 1000000) (hR : (rx_nw h 15 x.toNatClampNeg).1.length ≤ R.cells + c0 ∧ rx_us (rx_nw h 15 x.toNatClampNeg) ≤ R.slots + s0) (k : rx_K p l e R s m args below meth c Q D dA b base c0 s0 nL (pc + 2, ls, .ref h.1.length :: st, rx_nw h 15 x.toNatClampNeg)) : rx_K p l e R s m args below meth c Q D dA b base c0 s0 nL (pc, ls, .int x :: st, h) := by
  obtain ⟨hx, hb, hml, hown, hts, hfr, hlo, hin, hz, hbz⟩ := C
  have hk := (rx_P_ok hP).1
  intro H locs cells slots lc hr hS hl hn hc hs
  subst hn
  have hc : cells + c0 = h.1.length := hc
  have hs : slots + s0 = rx_us h := hs
  have h0 : 0 < h.1.length := rx_len_pos hr.2.2.2.2.choose_spec.1
  have hlen : (rx_nw h 15 x.toNatClampNeg).1.length = h.1.length + 1 := by unfold rx_nw; simp
  have hcells : cells + 1 ≤ R.cells := by have := hR.1; omega
  have hslots : slots + x.toNatClampNeg ≤ R.slots := by have := hR.2; rw [rx_us_nw] at this; omega
  refine va_newa (a0 := (x.toNatClampNeg, .inr (.inl (fun _ => 0)))) (ty := .long) hx hb (hts _ (rx_arr_in _ (by decide +kernel))) rfl hr.2.1.1 hr.1 rx_W_D hS (fun q hq => Nat.le_trans hbz hq) (fun cA => rfl) h1 rfl ?_ hcells hslots (rx_dec1 hk (fun _ => rfl) rfl) (fun q cA H1 hK1 hP1 hD1 hS1 => ?_)
  · show x.toNatClampNeg * 8 ≤ 536870912
    omega
  · have hcA : cA = dA 15 := by
      have q1 := (hK1.2 6 (cA, .long) rfl).2
      have q2 := (hr.2.1.1.2 2 (dA 15, .long) rfl).2
      exact Option.some.inj (q1.symm.trans q2)
    subst hcA
    have hE : (Sum.inl (dA 15, x.toNatClampNeg, .inr (.inl (fun _ => 0))) : va_E) = rx_E (rx_ad b base) dA (rx_nw h 15 x.toNatClampNeg) h.1.length := by
      rw [rx_E_arr rx_nw_get (by decide), rx_av_l]
      have e1 : (rx_nw h 15 x.toNatClampNeg).2.1 h.1.length = fun _ => 0 := rx_row_eq
      have e2 : (rx_nw h 15 x.toNatClampNeg).2.2.1 h.1.length = fun _ => 0 := rx_row_eq
      first | rw [e1] | rw [e2]
    refine rx_sized (fun hsz => ?_)
    have hpl := rx_place hP1 hD1 hz hc hsz h0
    have := k H1 locs (cells + 1) (slots + x.toNatClampNeg) lc (rx_rel_new hr hpl hE hP1 hbz hS hS1) hS1 hl rfl (by rw [hlen]; omega) (by rw [rx_us_nw]; omega)
    rw [List.map_cons] at this
    have e4 : rx_mv (rx_ad b base) (.ref h.1.length) = .ref q := by
      rw [hpl]
      show Value.ref (rx_ad b base h.1.length) = _
      obtain ⟨z, hz2⟩ : ∃ z, h.1.length = z + 1 := ⟨h.1.length - 1, by omega⟩
      rw [hz2]
      rfl
    rw [e4] at this
    exact this
theorem rx_s_newarray16 {j pc : Nat} {ls st : List Value} {h : rx_H} {x : Int32} (C : rx_at j p R s m args meth c base c0 nL) (hP : rx_P j pc = some (.newarray .boolean)) (h1 : ¬ x < 0) (h2 : x.toNatClampNeg ≤ 1000000) (hR : (rx_nw h 16 x.toNatClampNeg).1.length ≤ R.cells + c0 ∧ rx_us (rx_nw h 16 x.toNatClampNeg) ≤ R.slots + s0) (k : rx_K p l e R s m args below meth c Q D dA b base c0 s0 nL (pc + 2, ls, .ref h.1.length :: st, rx_nw h 16 x.toNatClampNeg)) : rx_K p l e R s m args below meth c Q D dA b base c0 s0 nL (pc, ls, .int x :: st, h) := by
  obtain ⟨hx, hb, hml, hown, hts, hfr, hlo, hin, hz, hbz⟩ := C
  have hk := (rx_P_ok hP).1
  intro H locs cells slots lc hr hS hl hn hc hs
  subst hn
  have hc : cells + c0 = h.1.length := hc
  have hs : slots + s0 = rx_us h := hs
  have h0 : 0 < h.1.length := rx_len_pos hr.2.2.2.2.choose_spec.1
  have hlen : (rx_nw h 16 x.toNatClampNeg).1.length = h.1.length + 1 := by unfold rx_nw; simp
  have hcells : cells + 1 ≤ R.cells := by have := hR.1; omega
  have hslots : slots + x.toNatClampNeg ≤ R.slots := by have := hR.2; rw [rx_us_nw] at this; omega
  refine va_newa (a0 := (x.toNatClampNeg, .inl (fun _ => 0))) (ty := .boolean) hx hb (hts _ (rx_arr_in _ (by decide +kernel))) rfl hr.2.1.1 hr.1 rx_W_D hS (fun q hq => Nat.le_trans hbz hq) (fun cA => rfl) h1 rfl ?_ hcells hslots (rx_dec1 hk (fun _ => rfl) rfl) (fun q cA H1 hK1 hP1 hD1 hS1 => ?_)
  · show x.toNatClampNeg * 1 ≤ 536870912
    omega
  · have hcA : cA = dA 16 := by
      have q1 := (hK1.2 6 (cA, .boolean) rfl).2
      have q2 := (hr.2.1.1.2 3 (dA 16, .boolean) rfl).2
      exact Option.some.inj (q1.symm.trans q2)
    subst hcA
    have hE : (Sum.inl (dA 16, x.toNatClampNeg, .inl (fun _ => 0)) : va_E) = rx_E (rx_ad b base) dA (rx_nw h 16 x.toNatClampNeg) h.1.length := by
      rw [rx_E_arr rx_nw_get (by decide), rx_av_i (by decide) (by decide)]
      have e1 : (rx_nw h 16 x.toNatClampNeg).2.1 h.1.length = fun _ => 0 := rx_row_eq
      have e2 : (rx_nw h 16 x.toNatClampNeg).2.2.1 h.1.length = fun _ => 0 := rx_row_eq
      first | rw [e1] | rw [e2]
    refine rx_sized (fun hsz => ?_)
    have hpl := rx_place hP1 hD1 hz hc hsz h0
    have := k H1 locs (cells + 1) (slots + x.toNatClampNeg) lc (rx_rel_new hr hpl hE hP1 hbz hS hS1) hS1 hl rfl (by rw [hlen]; omega) (by rw [rx_us_nw]; omega)
    rw [List.map_cons] at this
    have e4 : rx_mv (rx_ad b base) (.ref h.1.length) = .ref q := by
      rw [hpl]
      show Value.ref (rx_ad b base h.1.length) = _
      obtain ⟨z, hz2⟩ : ∃ z, h.1.length = z + 1 := ⟨h.1.length - 1, by omega⟩
      rw [hz2]
      rfl
    rw [e4] at this
    exact this
theorem rx_s_anewarray17 {j pc : Nat} {ls st : List Value} {h : rx_H} {x : Int32} (C : rx_at j p R s m args meth c base c0 nL) (hP : rx_P j pc = some (.anewarray 17)) (h1 : ¬ x < 0) (h2 : x.toNatClampNeg ≤ 1000000) (hR : (rx_nw h 17 x.toNatClampNeg).1.length ≤ R.cells + c0 ∧ rx_us (rx_nw h 17 x.toNatClampNeg) ≤ R.slots + s0) (k : rx_K p l e R s m args below meth c Q D dA b base c0 s0 nL (pc + 3, ls, .ref h.1.length :: st, rx_nw h 17 x.toNatClampNeg)) : rx_K p l e R s m args below meth c Q D dA b base c0 s0 nL (pc, ls, .int x :: st, h) := by
  obtain ⟨hx, hb, hml, hown, hts, hfr, hlo, hin, hz, hbz⟩ := C
  have hk := (rx_P_ok hP).1
  intro H locs cells slots lc hr hS hl hn hc hs
  subst hn
  have hc : cells + c0 = h.1.length := hc
  have hs : slots + s0 = rx_us h := hs
  have h0 : 0 < h.1.length := rx_len_pos hr.2.2.2.2.choose_spec.1
  have hlen : (rx_nw h 17 x.toNatClampNeg).1.length = h.1.length + 1 := by unfold rx_nw; simp
  have hcells : cells + 1 ≤ R.cells := by have := hR.1; omega
  have hslots : slots + x.toNatClampNeg ≤ R.slots := by have := hR.2; rw [rx_us_nw] at this; omega
  obtain ⟨i2, n2, g1, g2, g3, -⟩ := rx_dec hk
  have g4 : n2 = 3 := g3.elim (fun q => by cases q) id
  subst g4
  cases i2 with
  | anewarray y =>
    have hcl : Cond.classLink (rx_own (rx_m j).2.2.2.2.2.2.1) y "CartFloor$Cart" ∈ rx_tb := rx_acl_in _ (List.mem_map.mpr ⟨_, of_decide_eq_true g2, rfl⟩)
    refine va_newq (C := "CartFloor$Cart") hx hb hown (hts _ hcl) hr.2.1.2.2.1 hr.2.1.1 hr.1 rx_W_D hS (fun q hq => Nat.le_trans hbz hq) h1 rfl (by omega) hcells hslots g1 (fun q cA H1 hK1 hP1 hD1 hS1 => ?_)
    have hcA : cA = dA 17 := by
      obtain ⟨_, _, -, -, -, q1⟩ := (hK1.2 6 (cA, .object "CartFloor$Cart") rfl).2
      obtain ⟨_, _, -, -, -, q2⟩ := (hr.2.1.1.2 4 (dA 17, .object "CartFloor$Cart") rfl).2
      exact Option.some.inj (q1.symm.trans q2)
    subst hcA
    have hE : (Sum.inl (dA 17, x.toNatClampNeg, .inr (.inr (.inr (.inr (fun _ => none))))) : va_E) = rx_E (rx_ad b base) dA (rx_nw h 17 x.toNatClampNeg) h.1.length := by
      rw [rx_E_arr rx_nw_get (by decide), rx_av_q (by decide)]
      have e3 : (rx_nw h 17 x.toNatClampNeg).2.2.2 h.1.length = fun _ => none := rx_row_eq
      rw [e3]
      rfl
    refine rx_sized (fun hsz => ?_)
    have hpl := rx_place hP1 hD1 hz hc hsz h0
    have := k H1 locs (cells + 1) (slots + x.toNatClampNeg) lc (rx_rel_new hr hpl hE hP1 hbz hS hS1) hS1 hl rfl (by rw [hlen]; omega) (by rw [rx_us_nw]; omega)
    rw [List.map_cons] at this
    have e4 : rx_mv (rx_ad b base) (.ref h.1.length) = .ref q := by
      rw [hpl]
      show Value.ref (rx_ad b base h.1.length) = _
      obtain ⟨z, hz2⟩ : ∃ z, h.1.length = z + 1 := ⟨h.1.length - 1, by omega⟩
      rw [hz2]
      rfl
    rw [e4] at this
    exact this
  | _ => exact absurd g2 (by simp [rx_lk])
theorem rx_s_anewarray18 {j pc : Nat} {ls st : List Value} {h : rx_H} {x : Int32} (C : rx_at j p R s m args meth c base c0 nL) (hP : rx_P j pc = some (.anewarray 18)) (h1 : ¬ x < 0) (h2 : x.toNatClampNeg ≤ 1000000) (hR : (rx_nw h 18 x.toNatClampNeg).1.length ≤ R.cells + c0 ∧ rx_us (rx_nw h 18 x.toNatClampNeg) ≤ R.slots + s0) (k : rx_K p l e R s m args below meth c Q D dA b base c0 s0 nL (pc + 3, ls, .ref h.1.length :: st, rx_nw h 18 x.toNatClampNeg)) : rx_K p l e R s m args below meth c Q D dA b base c0 s0 nL (pc, ls, .int x :: st, h) := by
  obtain ⟨hx, hb, hml, hown, hts, hfr, hlo, hin, hz, hbz⟩ := C
  have hk := (rx_P_ok hP).1
  intro H locs cells slots lc hr hS hl hn hc hs
  subst hn
  have hc : cells + c0 = h.1.length := hc
  have hs : slots + s0 = rx_us h := hs
  have h0 : 0 < h.1.length := rx_len_pos hr.2.2.2.2.choose_spec.1
  have hlen : (rx_nw h 18 x.toNatClampNeg).1.length = h.1.length + 1 := by unfold rx_nw; simp
  have hcells : cells + 1 ≤ R.cells := by have := hR.1; omega
  have hslots : slots + x.toNatClampNeg ≤ R.slots := by have := hR.2; rw [rx_us_nw] at this; omega
  obtain ⟨i2, n2, g1, g2, g3, -⟩ := rx_dec hk
  have g4 : n2 = 3 := g3.elim (fun q => by cases q) id
  subst g4
  cases i2 with
  | anewarray y =>
    have hcl : Cond.classLink (rx_own (rx_m j).2.2.2.2.2.2.1) y "CartFloor$Shelf" ∈ rx_tb := rx_acl_in _ (List.mem_map.mpr ⟨_, of_decide_eq_true g2, rfl⟩)
    refine va_newq (C := "CartFloor$Shelf") hx hb hown (hts _ hcl) hr.2.1.2.2.2 hr.2.1.1 hr.1 rx_W_D hS (fun q hq => Nat.le_trans hbz hq) h1 rfl (by omega) hcells hslots g1 (fun q cA H1 hK1 hP1 hD1 hS1 => ?_)
    have hcA : cA = dA 18 := by
      obtain ⟨_, _, -, -, -, q1⟩ := (hK1.2 6 (cA, .object "CartFloor$Shelf") rfl).2
      obtain ⟨_, _, -, -, -, q2⟩ := (hr.2.1.1.2 5 (dA 18, .object "CartFloor$Shelf") rfl).2
      exact Option.some.inj (q1.symm.trans q2)
    subst hcA
    have hE : (Sum.inl (dA 18, x.toNatClampNeg, .inr (.inr (.inr (.inr (fun _ => none))))) : va_E) = rx_E (rx_ad b base) dA (rx_nw h 18 x.toNatClampNeg) h.1.length := by
      rw [rx_E_arr rx_nw_get (by decide), rx_av_q (by decide)]
      have e3 : (rx_nw h 18 x.toNatClampNeg).2.2.2 h.1.length = fun _ => none := rx_row_eq
      rw [e3]
      rfl
    refine rx_sized (fun hsz => ?_)
    have hpl := rx_place hP1 hD1 hz hc hsz h0
    have := k H1 locs (cells + 1) (slots + x.toNatClampNeg) lc (rx_rel_new hr hpl hE hP1 hbz hS hS1) hS1 hl rfl (by rw [hlen]; omega) (by rw [rx_us_nw]; omega)
    rw [List.map_cons] at this
    have e4 : rx_mv (rx_ad b base) (.ref h.1.length) = .ref q := by
      rw [hpl]
      show Value.ref (rx_ad b base h.1.length) = _
      obtain ⟨z, hz2⟩ : ∃ z, h.1.length = z + 1 := ⟨h.1.length - 1, by omega⟩
      rw [hz2]
      rfl
    rw [e4] at this
    exact this
  | _ => exact absurd g2 (by simp [rx_lk])
theorem rx_s_table {j pc : Nat} {ls st : List Value} {h : rx_H} {d lo hi : Int} {os : Array Int} {x : Int32} (C : rx_at j p R s m args meth c base c0 nL) (hP : rx_P j pc = some (.tableswitch d lo hi os)) (k : rx_K p l e R s m args below meth c Q D dA b base c0 s0 nL (if x.toInt < lo ∨ hi < x.toInt then rx_to pc d else rx_to pc (os.toList.getD (x.toInt - lo).toNat d), ls, st, h)) : rx_K p l e R s m args below meth c Q D dA b base c0 s0 nL (pc, ls, .int x :: st, h) := by
  obtain ⟨hx, hb, hml, hown, hts, hfr, hlo, hin, hz, hbz⟩ := C
  have hk := (rx_P_ok hP).1
  intro H locs cells slots lc hr hS hl hn hc hs
  subst hn
  have hc : cells + c0 = h.1.length := hc
  have hs : slots + s0 = rx_us h := hs
  obtain ⟨i2, n2, g1, g2, g3, g5⟩ := rx_dec hk
  have ei : i2 = .tableswitch d lo hi os := of_decide_eq_true g2
  subst ei
  unfold rx_tg at g5
  simp only [Bool.and_eq_true, decide_eq_true_eq] at g5
  obtain ⟨⟨t1, t2⟩, t3⟩ := g5
  by_cases hq : x.toInt < lo ∨ hi < x.toInt
  · have k2 := k
    rw [if_pos hq] at k2
    exact lv_tableOut hx hb g1 hq (rx_tgt t1) (k2 H locs cells slots lc hr hS hl rfl hc hs)
  · have k2 := k
    rw [if_neg hq] at k2
    have hlt : (x.toInt - lo).toNat < os.toList.length := by rw [Array.length_toList]; omega
    have hget : os[(x.toInt - lo).toNat]? = some (os.toList.getD (x.toInt - lo).toNat d) := by
      rw [← Array.getElem?_toList, List.getD_eq_getElem?_getD, List.getElem?_eq_getElem hlt]
      rfl
    have hmem : os.toList.getD (x.toInt - lo).toNat d ∈ os.toList := by
      rw [List.getD_eq_getElem?_getD, List.getElem?_eq_getElem hlt]
      exact List.getElem_mem hlt
    exact lv_tableIn hx hb g1 (fun q => hq (Or.inl q)) (fun q => hq (Or.inr q)) hget (rx_tgt (of_decide_eq_true (List.all_eq_true.mp t2 _ hmem))) (k2 H locs cells slots lc hr hS hl rfl hc hs)
theorem rx_look_mem : ∀ (ps : List (Int × Int)) (d x : Int) (P : Int → Prop), P d → (∀ q ∈ ps, P q.2) → P (Op.lookupswitch.offset ps d x)
  | [], d, x, P, h, _ => h
  | (a, o) :: r, d, x, P, h, g => by
    rw [Op.lookupswitch.offset_cons]
    split
    · exact g (a, o) List.mem_cons_self
    · exact rx_look_mem r d x P h (fun q hq => g q (List.mem_cons_of_mem _ hq))
theorem rx_s_lookup {j pc : Nat} {ls st : List Value} {h : rx_H} {d : Int} {ps : Array (Int × Int)} {x : Int32} (C : rx_at j p R s m args meth c base c0 nL) (hP : rx_P j pc = some (.lookupswitch d ps)) (k : rx_K p l e R s m args below meth c Q D dA b base c0 s0 nL (rx_to pc (Op.lookupswitch.offset ps.toList d x.toInt), ls, st, h)) : rx_K p l e R s m args below meth c Q D dA b base c0 s0 nL (pc, ls, .int x :: st, h) := by
  obtain ⟨hx, hb, hml, hown, hts, hfr, hlo, hin, hz, hbz⟩ := C
  have hk := (rx_P_ok hP).1
  intro H locs cells slots lc hr hS hl hn hc hs
  subst hn
  have hc : cells + c0 = h.1.length := hc
  have hs : slots + s0 = rx_us h := hs
  obtain ⟨i2, n2, g1, g2, g3, g5⟩ := rx_dec hk
  have ei : i2 = .lookupswitch d ps := of_decide_eq_true g2
  subst ei
  unfold rx_tg at g5
  rw [Bool.and_eq_true, Bool.and_eq_true, decide_eq_true_eq] at g5
  obtain ⟨⟨t1, t2⟩, t3⟩ := g5
  exact lv_lookup hx hb g1 t3 rfl (rx_tgt (rx_look_mem ps.toList d x.toInt (fun o => 0 ≤ (pc : Int) + o) t1 (fun q hq => of_decide_eq_true (List.all_eq_true.mp t2 _ hq)))) (k H locs cells slots lc hr hS hl rfl hc hs)
theorem rx_s_max {j pc : Nat} {ls st : List Value} {h : rx_H} {x y : Int32} (C : rx_at j p R s m args meth c base c0 nL) (hP : rx_P j pc = some (.invokestatic 2001)) (hcat : rx_cat st ≤ 8) (hR : h.1.length ≤ R.cells + c0 ∧ rx_us h ≤ R.slots + s0) (k : rx_K p l e R s m args below meth c Q D dA b base c0 s0 nL (pc + 3, ls, .int (if x < y then y else x) :: st, h)) : rx_K p l e R s m args below meth c Q D dA b base c0 s0 nL (pc, ls, .int y :: .int x :: st, h) := by
  have hfit := (rx_P_ok hP).2
  obtain ⟨hx, hb, hml, hown, hts, hfr, hlo, hin, hz, hbz⟩ := C
  have hk := (rx_P_ok hP).1
  intro H locs cells slots lc hr hS hl hn hc hs
  subst hn
  have hc : cells + c0 = h.1.length := hc
  have hs : slots + s0 = rx_us h := hs
  have hf2 : 1 ≤ R.frames ∧ 21 ≤ R.locals := by
    have e := hfit
    unfold rx_fit at e
    simp only [show Nat.beq 2001 0 = false from rfl, show Nat.ble 2000 2001 = true from rfl, cond_true, cond_false, Bool.and_eq_true] at e
    exact ⟨Nat.le_trans (Nat.le_of_ble_eq_true e.1) hfr, Nat.le_trans (Nat.le_of_ble_eq_true e.2) hlo⟩
  obtain ⟨i2, n2, g1, g2, g3, -⟩ := rx_dec hk
  have g4 : n2 = 3 := g3.elim (fun q => by cases q) id
  subst g4
  cases i2 with
  | invokestatic z =>
    unfold rx_lk at g2
    simp only [show Nat.ble 2000 2001 = true from rfl, cond_true, Bool.and_eq_true] at g2
    have hlk : Cond.methodLink (rx_own (rx_m j).2.2.2.2.2.2.1) z Lib.Math.max.name ∈ rx_tb := rx_mml_in _ (List.mem_map.mpr ⟨_, of_decide_eq_true g2.1, rfl⟩)
    exact va_mmax hx hb (hml.trans hl.1.symm) hown (hts _ hlk) (hts _ (rx_mst_in _ (by simp))) (hts _ (rx_inis_in _ (by decide +kernel))) (hts _ rx_mxc_in) hf2.1 (by rw [rx_mv_sum]; omega) (by have := hR.1; omega) (by have := hR.2; omega) g1 (k H locs cells slots lc hr hS hl rfl hc hs)
  | _ => exact absurd g2 (by simp [rx_lk])
theorem rx_s_min {j pc : Nat} {ls st : List Value} {h : rx_H} {x y : Int32} (C : rx_at j p R s m args meth c base c0 nL) (hP : rx_P j pc = some (.invokestatic 2002)) (hcat : rx_cat st ≤ 8) (hR : h.1.length ≤ R.cells + c0 ∧ rx_us h ≤ R.slots + s0) (k : rx_K p l e R s m args below meth c Q D dA b base c0 s0 nL (pc + 3, ls, .int (if y < x then y else x) :: st, h)) : rx_K p l e R s m args below meth c Q D dA b base c0 s0 nL (pc, ls, .int y :: .int x :: st, h) := by
  have hfit := (rx_P_ok hP).2
  obtain ⟨hx, hb, hml, hown, hts, hfr, hlo, hin, hz, hbz⟩ := C
  have hk := (rx_P_ok hP).1
  intro H locs cells slots lc hr hS hl hn hc hs
  subst hn
  have hc : cells + c0 = h.1.length := hc
  have hs : slots + s0 = rx_us h := hs
  have hf2 : 1 ≤ R.frames ∧ 21 ≤ R.locals := by
    have e := hfit
    unfold rx_fit at e
    simp only [show Nat.beq 2002 0 = false from rfl, show Nat.ble 2000 2002 = true from rfl, cond_true, cond_false, Bool.and_eq_true] at e
    exact ⟨Nat.le_trans (Nat.le_of_ble_eq_true e.1) hfr, Nat.le_trans (Nat.le_of_ble_eq_true e.2) hlo⟩
  obtain ⟨i2, n2, g1, g2, g3, -⟩ := rx_dec hk
  have g4 : n2 = 3 := g3.elim (fun q => by cases q) id
  subst g4
  cases i2 with
  | invokestatic z =>
    unfold rx_lk at g2
    simp only [show Nat.ble 2000 2002 = true from rfl, cond_true, Bool.and_eq_true] at g2
    have hlk : Cond.methodLink (rx_own (rx_m j).2.2.2.2.2.2.1) z Lib.Math.min.name ∈ rx_tb := rx_mml_in _ (List.mem_map.mpr ⟨_, of_decide_eq_true g2.1, rfl⟩)
    exact va_mmin hx hb (hml.trans hl.1.symm) hown (hts _ hlk) (hts _ (rx_mst_in _ (by simp))) (hts _ (rx_inis_in _ (by decide +kernel))) (hts _ rx_mnc_in) hf2.1 (by rw [rx_mv_sum]; omega) (by have := hR.1; omega) (by have := hR.2; omega) g1 (k H locs cells slots lc hr hS hl rfl hc hs)
  | _ => exact absurd g2 (by simp [rx_lk])
theorem rx_s_objinit {j pc : Nat} {ls st : List Value} {h : rx_H} {i : Nat} (C : rx_at j p R s m args meth c base c0 nL) (hP : rx_P j pc = some (.invokespecial 0)) (hcat : rx_cat st ≤ 8) (k : rx_K p l e R s m args below meth c Q D dA b base c0 s0 nL (pc + 3, ls, st, h)) : rx_K p l e R s m args below meth c Q D dA b base c0 s0 nL (pc, ls, .ref i :: st, h) := by
  have hfit := (rx_P_ok hP).2
  obtain ⟨hx, hb, hml, hown, hts, hfr, hlo, hin, hz, hbz⟩ := C
  have hk := (rx_P_ok hP).1
  intro H locs cells slots lc hr hS hl hn hc hs
  subst hn
  have hc : cells + c0 = h.1.length := hc
  have hs : slots + s0 = rx_us h := hs
  have hf2 : 1 ≤ R.frames ∧ 20 ≤ R.locals := by
    have e := hfit
    unfold rx_fit at e
    simp only [show Nat.beq 0 0 = true from rfl, cond_true, Bool.and_eq_true] at e
    exact ⟨Nat.le_trans (Nat.le_of_ble_eq_true e.1) hfr, Nat.le_trans (Nat.le_of_ble_eq_true e.2) hlo⟩
  obtain ⟨i2, n2, g1, g2, g3, -⟩ := rx_dec hk
  have g4 : n2 = 3 := g3.elim (fun q => by cases q) id
  subst g4
  cases i2 with
  | invokespecial z =>
    unfold rx_lk at g2
    simp only [Bool.and_eq_true, decide_eq_true_eq] at g2
    have hlk : Cond.methodLink (rx_own (rx_m j).2.2.2.2.2.2.1) z objectInit ∈ rx_tb := by
      obtain ⟨hj, hmem⟩ := rx_P_mem hP
      have h3 := List.all_eq_true.mp (List.all_eq_true.mp rx_sp0_ok j (List.mem_range.mpr hj)) _ hmem
      unfold rx_sp0 at h3
      dsimp only at h3
      rw [g1] at h3
      exact rx_oil_in _ (List.mem_map.mpr ⟨_, of_decide_eq_true h3, rfl⟩)
    exact W.objInit hx hb hown (hts _ hlk) (hts _ (rx_sys_in _ (by decide +kernel))) (hts _ rx_oic_in) rfl (hl.1.trans hml.symm) rfl g1 hf2.1 (by show 2 * 0 + _ + 12 ≤ _; rw [rx_mv_sum]; omega) (k H locs cells slots lc hr hS hl rfl hc hs)
  | _ => exact absurd g2 (by simp [rx_lk])
theorem rx_s_copy13 {j pc : Nat} {ls st : List Value} {h : rx_H} {s1 d1 n0 n1 : Nat} {sp dp n : Int32} (C : rx_at j p R s m args meth c base c0 nL) (hP : rx_P j pc = some (.invokestatic 0)) (hcat : rx_cat st ≤ 8) (hs1 : h.1[s1 + 1]? = some (13, n0)) (hd1 : h.1[d1 + 1]? = some (13, n1)) (h1 : ¬ sp < 0) (h2 : ¬ dp < 0) (h3 : ¬ n < 0) (h4 : sp.toNatClampNeg + n.toNatClampNeg ≤ n0) (h5 : dp.toNatClampNeg + n.toNatClampNeg ≤ n1) (hfit : ∀ i, i < n.toNatClampNeg → fits .byte (.int (h.2.1 (s1 + 1) (sp.toNatClampNeg + i))) = true) (k : rx_K p l e R s m args below meth c Q D dA b base c0 s0 nL (pc + 3, ls, st, (h.1, rx_row h.2.1 (d1 + 1) (va_cpy (h.2.1 (s1 + 1)) (h.2.1 (d1 + 1)) sp.toNatClampNeg dp.toNatClampNeg n.toNatClampNeg), h.2.2.1, h.2.2.2))) : rx_K p l e R s m args below meth c Q D dA b base c0 s0 nL (pc, ls, .int n :: .int dp :: .ref (d1 + 1) :: .int sp :: .ref (s1 + 1) :: st, h) := by
  have hfi := (rx_P_ok hP).2
  obtain ⟨hx, hb, hml, hown, hts, hfr, hlo, hin, hz, hbz⟩ := C
  have hk := (rx_P_ok hP).1
  intro H locs cells slots lc hr hS hl hn hc hs
  subst hn
  have hc : cells + c0 = h.1.length := hc
  have hs : slots + s0 = rx_us h := hs
  have hf2 : 1 ≤ R.frames ∧ 26 ≤ R.locals := by
    have e := hfi
    unfold rx_fit at e
    simp only [show Nat.beq 0 0 = true from rfl, cond_true, Bool.and_eq_true] at e
    exact ⟨Nat.le_trans (Nat.le_of_ble_eq_true e.1) hfr, Nat.le_trans (Nat.le_of_ble_eq_true e.2) hlo⟩
  obtain ⟨i2, n2, g1, g2, g3, -⟩ := rx_dec hk
  have g4 : n2 = 3 := g3.elim (fun q => by cases q) id
  subst g4
  cases i2 with
  | invokestatic z =>
    have hlk : Cond.methodLink (rx_own (rx_m j).2.2.2.2.2.2.1) z arraycopyName ∈ rx_tb := by
      obtain ⟨hj, hmem⟩ := rx_P_mem hP
      have h3 := List.all_eq_true.mp (List.all_eq_true.mp rx_sp0_ok j (List.mem_range.mpr hj)) _ hmem
      unfold rx_sp0 at h3
      dsimp only at h3
      rw [g1] at h3
      exact rx_acll_in _ (List.mem_map.mpr ⟨_, of_decide_eq_true h3, rfl⟩)
    have he := rx_W_get (b := b) (base := base) (dA := dA) (rx_lt_len hs1)
    rw [rx_E_arr hs1 (by decide), rx_av_i (by decide) (by decide)] at he
    have hw := rx_W_get (b := b) (base := base) (dA := dA) (rx_lt_len hd1)
    rw [rx_E_arr hd1 (by decide), rx_av_i (by decide) (by decide)] at hw
    refine va_copyi (ty := .byte) hx hb (hml.trans hl.1.symm) hown (hts _ hlk) (hts _ (rx_sys_in _ (by decide +kernel))) (hts _ (rx_sys_in _ (by decide +kernel))) (hts _ (rx_inis_in _ (by decide +kernel))) hr.2.1.1 hr.1 rx_W_D hS s1 d1 0 0 he hw rfl rfl rfl h1 h2 h3 h4 h5 (fun i hi => hfit i hi) hf2.1 ?_ g1 (fun H1 locs1 hP1 hD1 hS1 => ?_)
    · rw [rx_mv_sum]
      show _ + (7 + 11) ≤ _
      omega
    · refine k H1 locs1 cells slots lc (rx_rel_set hr rfl (fun a ha => ⟨rx_row_ne ha, rfl, rfl⟩) ?_ hP1 hbz hS hS1) hS1 hl rfl hc hs
      refine Eq.trans ?_ (rx_E_arr (h := (h.1, rx_row h.2.1 (d1 + 1) (va_cpy (h.2.1 (s1 + 1)) (h.2.1 (d1 + 1)) sp.toNatClampNeg dp.toNatClampNeg n.toNatClampNeg), h.2.2.1, h.2.2.2)) (t := 13) (n := n1) hd1 (by decide)).symm
      rw [rx_av_i (by decide) (by decide)]
      show _ = Sum.inl (dA 13, n1, Sum.inl (rx_row h.2.1 (d1 + 1) _ (d1 + 1)))
      rw [rx_row_eq]
  | _ => exact absurd g2 (by simp [rx_lk])
theorem rx_s_copy14 {j pc : Nat} {ls st : List Value} {h : rx_H} {s1 d1 n0 n1 : Nat} {sp dp n : Int32} (C : rx_at j p R s m args meth c base c0 nL) (hP : rx_P j pc = some (.invokestatic 0)) (hcat : rx_cat st ≤ 8) (hs1 : h.1[s1 + 1]? = some (14, n0)) (hd1 : h.1[d1 + 1]? = some (14, n1)) (h1 : ¬ sp < 0) (h2 : ¬ dp < 0) (h3 : ¬ n < 0) (h4 : sp.toNatClampNeg + n.toNatClampNeg ≤ n0) (h5 : dp.toNatClampNeg + n.toNatClampNeg ≤ n1) (k : rx_K p l e R s m args below meth c Q D dA b base c0 s0 nL (pc + 3, ls, st, (h.1, rx_row h.2.1 (d1 + 1) (va_cpy (h.2.1 (s1 + 1)) (h.2.1 (d1 + 1)) sp.toNatClampNeg dp.toNatClampNeg n.toNatClampNeg), h.2.2.1, h.2.2.2))) : rx_K p l e R s m args below meth c Q D dA b base c0 s0 nL (pc, ls, .int n :: .int dp :: .ref (d1 + 1) :: .int sp :: .ref (s1 + 1) :: st, h) := by
  have hfi := (rx_P_ok hP).2
  obtain ⟨hx, hb, hml, hown, hts, hfr, hlo, hin, hz, hbz⟩ := C
  have hk := (rx_P_ok hP).1
  intro H locs cells slots lc hr hS hl hn hc hs
  subst hn
  have hc : cells + c0 = h.1.length := hc
  have hs : slots + s0 = rx_us h := hs
  have hf2 : 1 ≤ R.frames ∧ 26 ≤ R.locals := by
    have e := hfi
    unfold rx_fit at e
    simp only [show Nat.beq 0 0 = true from rfl, cond_true, Bool.and_eq_true] at e
    exact ⟨Nat.le_trans (Nat.le_of_ble_eq_true e.1) hfr, Nat.le_trans (Nat.le_of_ble_eq_true e.2) hlo⟩
  obtain ⟨i2, n2, g1, g2, g3, -⟩ := rx_dec hk
  have g4 : n2 = 3 := g3.elim (fun q => by cases q) id
  subst g4
  cases i2 with
  | invokestatic z =>
    have hlk : Cond.methodLink (rx_own (rx_m j).2.2.2.2.2.2.1) z arraycopyName ∈ rx_tb := by
      obtain ⟨hj, hmem⟩ := rx_P_mem hP
      have h3 := List.all_eq_true.mp (List.all_eq_true.mp rx_sp0_ok j (List.mem_range.mpr hj)) _ hmem
      unfold rx_sp0 at h3
      dsimp only at h3
      rw [g1] at h3
      exact rx_acll_in _ (List.mem_map.mpr ⟨_, of_decide_eq_true h3, rfl⟩)
    have he := rx_W_get (b := b) (base := base) (dA := dA) (rx_lt_len hs1)
    rw [rx_E_arr hs1 (by decide), rx_av_i (by decide) (by decide)] at he
    have hw := rx_W_get (b := b) (base := base) (dA := dA) (rx_lt_len hd1)
    rw [rx_E_arr hd1 (by decide), rx_av_i (by decide) (by decide)] at hw
    refine va_copyi (ty := .int) hx hb (hml.trans hl.1.symm) hown (hts _ hlk) (hts _ (rx_sys_in _ (by decide +kernel))) (hts _ (rx_sys_in _ (by decide +kernel))) (hts _ (rx_inis_in _ (by decide +kernel))) hr.2.1.1 hr.1 rx_W_D hS s1 d1 1 1 he hw rfl rfl rfl h1 h2 h3 h4 h5 (fun i hi => rfl) hf2.1 ?_ g1 (fun H1 locs1 hP1 hD1 hS1 => ?_)
    · rw [rx_mv_sum]
      show _ + (7 + 11) ≤ _
      omega
    · refine k H1 locs1 cells slots lc (rx_rel_set hr rfl (fun a ha => ⟨rx_row_ne ha, rfl, rfl⟩) ?_ hP1 hbz hS hS1) hS1 hl rfl hc hs
      refine Eq.trans ?_ (rx_E_arr (h := (h.1, rx_row h.2.1 (d1 + 1) (va_cpy (h.2.1 (s1 + 1)) (h.2.1 (d1 + 1)) sp.toNatClampNeg dp.toNatClampNeg n.toNatClampNeg), h.2.2.1, h.2.2.2)) (t := 14) (n := n1) hd1 (by decide)).symm
      rw [rx_av_i (by decide) (by decide)]
      show _ = Sum.inl (dA 14, n1, Sum.inl (rx_row h.2.1 (d1 + 1) _ (d1 + 1)))
      rw [rx_row_eq]
  | _ => exact absurd g2 (by simp [rx_lk])
theorem rx_s_copy15 {j pc : Nat} {ls st : List Value} {h : rx_H} {s1 d1 n0 n1 : Nat} {sp dp n : Int32} (C : rx_at j p R s m args meth c base c0 nL) (hP : rx_P j pc = some (.invokestatic 0)) (hcat : rx_cat st ≤ 8) (hs1 : h.1[s1 + 1]? = some (15, n0)) (hd1 : h.1[d1 + 1]? = some (15, n1)) (h1 : ¬ sp < 0) (h2 : ¬ dp < 0) (h3 : ¬ n < 0) (h4 : sp.toNatClampNeg + n.toNatClampNeg ≤ n0) (h5 : dp.toNatClampNeg + n.toNatClampNeg ≤ n1) (k : rx_K p l e R s m args below meth c Q D dA b base c0 s0 nL (pc + 3, ls, st, (h.1, h.2.1, rx_row h.2.2.1 (d1 + 1) (va_cpy (h.2.2.1 (s1 + 1)) (h.2.2.1 (d1 + 1)) sp.toNatClampNeg dp.toNatClampNeg n.toNatClampNeg), h.2.2.2))) : rx_K p l e R s m args below meth c Q D dA b base c0 s0 nL (pc, ls, .int n :: .int dp :: .ref (d1 + 1) :: .int sp :: .ref (s1 + 1) :: st, h) := by
  have hfi := (rx_P_ok hP).2
  obtain ⟨hx, hb, hml, hown, hts, hfr, hlo, hin, hz, hbz⟩ := C
  have hk := (rx_P_ok hP).1
  intro H locs cells slots lc hr hS hl hn hc hs
  subst hn
  have hc : cells + c0 = h.1.length := hc
  have hs : slots + s0 = rx_us h := hs
  have hf2 : 1 ≤ R.frames ∧ 26 ≤ R.locals := by
    have e := hfi
    unfold rx_fit at e
    simp only [show Nat.beq 0 0 = true from rfl, cond_true, Bool.and_eq_true] at e
    exact ⟨Nat.le_trans (Nat.le_of_ble_eq_true e.1) hfr, Nat.le_trans (Nat.le_of_ble_eq_true e.2) hlo⟩
  obtain ⟨i2, n2, g1, g2, g3, -⟩ := rx_dec hk
  have g4 : n2 = 3 := g3.elim (fun q => by cases q) id
  subst g4
  cases i2 with
  | invokestatic z =>
    have hlk : Cond.methodLink (rx_own (rx_m j).2.2.2.2.2.2.1) z arraycopyName ∈ rx_tb := by
      obtain ⟨hj, hmem⟩ := rx_P_mem hP
      have h3 := List.all_eq_true.mp (List.all_eq_true.mp rx_sp0_ok j (List.mem_range.mpr hj)) _ hmem
      unfold rx_sp0 at h3
      dsimp only at h3
      rw [g1] at h3
      exact rx_acll_in _ (List.mem_map.mpr ⟨_, of_decide_eq_true h3, rfl⟩)
    have he := rx_W_get (b := b) (base := base) (dA := dA) (rx_lt_len hs1)
    rw [rx_E_arr hs1 (by decide), rx_av_l] at he
    have hw := rx_W_get (b := b) (base := base) (dA := dA) (rx_lt_len hd1)
    rw [rx_E_arr hd1 (by decide), rx_av_l] at hw
    refine va_copyl (ty := .long) hx hb (hml.trans hl.1.symm) hown (hts _ hlk) (hts _ (rx_sys_in _ (by decide +kernel))) (hts _ (rx_sys_in _ (by decide +kernel))) (hts _ (rx_inis_in _ (by decide +kernel))) hr.2.1.1 hr.1 rx_W_D hS s1 d1 2 2 he hw rfl rfl rfl h1 h2 h3 h4 h5 (fun i hi => rfl) hf2.1 ?_ g1 (fun H1 locs1 hP1 hD1 hS1 => ?_)
    · rw [rx_mv_sum]
      show _ + (7 + 11) ≤ _
      omega
    · refine k H1 locs1 cells slots lc (rx_rel_set hr rfl (fun a ha => ⟨rfl, rx_row_ne ha, rfl⟩) ?_ hP1 hbz hS hS1) hS1 hl rfl hc hs
      refine Eq.trans ?_ (rx_E_arr (h := (h.1, h.2.1, rx_row h.2.2.1 (d1 + 1) (va_cpy (h.2.2.1 (s1 + 1)) (h.2.2.1 (d1 + 1)) sp.toNatClampNeg dp.toNatClampNeg n.toNatClampNeg), h.2.2.2)) (t := 15) (n := n1) hd1 (by decide)).symm
      rw [rx_av_l]
      show _ = Sum.inl (dA 15, n1, Sum.inr (Sum.inl (rx_row h.2.2.1 (d1 + 1) _ (d1 + 1))))
      rw [rx_row_eq]
  | _ => exact absurd g2 (by simp [rx_lk])
theorem rx_s_copy16 {j pc : Nat} {ls st : List Value} {h : rx_H} {s1 d1 n0 n1 : Nat} {sp dp n : Int32} (C : rx_at j p R s m args meth c base c0 nL) (hP : rx_P j pc = some (.invokestatic 0)) (hcat : rx_cat st ≤ 8) (hs1 : h.1[s1 + 1]? = some (16, n0)) (hd1 : h.1[d1 + 1]? = some (16, n1)) (h1 : ¬ sp < 0) (h2 : ¬ dp < 0) (h3 : ¬ n < 0) (h4 : sp.toNatClampNeg + n.toNatClampNeg ≤ n0) (h5 : dp.toNatClampNeg + n.toNatClampNeg ≤ n1) (hfit : ∀ i, i < n.toNatClampNeg → fits .boolean (.int (h.2.1 (s1 + 1) (sp.toNatClampNeg + i))) = true) (k : rx_K p l e R s m args below meth c Q D dA b base c0 s0 nL (pc + 3, ls, st, (h.1, rx_row h.2.1 (d1 + 1) (va_cpy (h.2.1 (s1 + 1)) (h.2.1 (d1 + 1)) sp.toNatClampNeg dp.toNatClampNeg n.toNatClampNeg), h.2.2.1, h.2.2.2))) : rx_K p l e R s m args below meth c Q D dA b base c0 s0 nL (pc, ls, .int n :: .int dp :: .ref (d1 + 1) :: .int sp :: .ref (s1 + 1) :: st, h) := by
  have hfi := (rx_P_ok hP).2
  obtain ⟨hx, hb, hml, hown, hts, hfr, hlo, hin, hz, hbz⟩ := C
  have hk := (rx_P_ok hP).1
  intro H locs cells slots lc hr hS hl hn hc hs
  subst hn
  have hc : cells + c0 = h.1.length := hc
  have hs : slots + s0 = rx_us h := hs
  have hf2 : 1 ≤ R.frames ∧ 26 ≤ R.locals := by
    have e := hfi
    unfold rx_fit at e
    simp only [show Nat.beq 0 0 = true from rfl, cond_true, Bool.and_eq_true] at e
    exact ⟨Nat.le_trans (Nat.le_of_ble_eq_true e.1) hfr, Nat.le_trans (Nat.le_of_ble_eq_true e.2) hlo⟩
  obtain ⟨i2, n2, g1, g2, g3, -⟩ := rx_dec hk
  have g4 : n2 = 3 := g3.elim (fun q => by cases q) id
  subst g4
  cases i2 with
  | invokestatic z =>
    have hlk : Cond.methodLink (rx_own (rx_m j).2.2.2.2.2.2.1) z arraycopyName ∈ rx_tb := by
      obtain ⟨hj, hmem⟩ := rx_P_mem hP
      have h3 := List.all_eq_true.mp (List.all_eq_true.mp rx_sp0_ok j (List.mem_range.mpr hj)) _ hmem
      unfold rx_sp0 at h3
      dsimp only at h3
      rw [g1] at h3
      exact rx_acll_in _ (List.mem_map.mpr ⟨_, of_decide_eq_true h3, rfl⟩)
    have he := rx_W_get (b := b) (base := base) (dA := dA) (rx_lt_len hs1)
    rw [rx_E_arr hs1 (by decide), rx_av_i (by decide) (by decide)] at he
    have hw := rx_W_get (b := b) (base := base) (dA := dA) (rx_lt_len hd1)
    rw [rx_E_arr hd1 (by decide), rx_av_i (by decide) (by decide)] at hw
    refine va_copyi (ty := .boolean) hx hb (hml.trans hl.1.symm) hown (hts _ hlk) (hts _ (rx_sys_in _ (by decide +kernel))) (hts _ (rx_sys_in _ (by decide +kernel))) (hts _ (rx_inis_in _ (by decide +kernel))) hr.2.1.1 hr.1 rx_W_D hS s1 d1 3 3 he hw rfl rfl rfl h1 h2 h3 h4 h5 (fun i hi => hfit i hi) hf2.1 ?_ g1 (fun H1 locs1 hP1 hD1 hS1 => ?_)
    · rw [rx_mv_sum]
      show _ + (7 + 11) ≤ _
      omega
    · refine k H1 locs1 cells slots lc (rx_rel_set hr rfl (fun a ha => ⟨rx_row_ne ha, rfl, rfl⟩) ?_ hP1 hbz hS hS1) hS1 hl rfl hc hs
      refine Eq.trans ?_ (rx_E_arr (h := (h.1, rx_row h.2.1 (d1 + 1) (va_cpy (h.2.1 (s1 + 1)) (h.2.1 (d1 + 1)) sp.toNatClampNeg dp.toNatClampNeg n.toNatClampNeg), h.2.2.1, h.2.2.2)) (t := 16) (n := n1) hd1 (by decide)).symm
      rw [rx_av_i (by decide) (by decide)]
      show _ = Sum.inl (dA 16, n1, Sum.inl (rx_row h.2.1 (d1 + 1) _ (d1 + 1)))
      rw [rx_row_eq]
  | _ => exact absurd g2 (by simp [rx_lk])
end RXM
