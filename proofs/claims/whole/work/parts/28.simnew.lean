/-! One step, where cells are made; switches; the JDK's own. -/
theorem rx_ty_ok : rx_tys.all (fun l => l.all (fun t => decide (t ≠ .float) && decide (t ≠ .double))) = true := by decide +kernel
theorem rx_ty_num {ci k : Nat} (hk : k < (rx_tys.getD ci []).length) : rx_ty ci k ≠ .float ∧ rx_ty ci k ≠ .double := by
  have hc : rx_tys.getD ci [] ∈ rx_tys := by
    rw [List.getD_eq_getElem?_getD] at hk ⊢
    cases h : rx_tys[ci]? with
    | none => rw [h] at hk; simp at hk
    | some l => exact List.mem_of_getElem? h
  have h1 := List.all_eq_true.mp rx_ty_ok _ hc
  have hm : rx_ty ci k ∈ rx_tys.getD ci [] := by
    show (rx_tys.getD ci []).getD k .int ∈ rx_tys.getD ci []
    clear h1 hc
    generalize rx_tys.getD ci [] = z at hk ⊢
    rw [List.getD_eq_getElem?_getD, List.getElem?_eq_getElem hk]
    exact List.getElem_mem hk
  have h2 := List.all_eq_true.mp h1 _ hm
  simp only [Bool.and_eq_true, decide_eq_true_eq] at h2
  exact h2
theorem rx_us_nw (h : rx_H) (t n : Nat) : rx_us (rx_nw h t n) = rx_us h + n := by
  unfold rx_us rx_nw
  simp
theorem rx_nw_get {h : rx_H} {t n : Nat} : (rx_nw h t n).1[h.1.length]? = some (t, n) := by
  unfold rx_nw
  simp
theorem rx_nw_old {h : rx_H} {t n j : Nat} (hj : j < h.1.length) : (rx_nw h t n).1[j]? = h.1[j]? ∧ (rx_nw h t n).2.1 j = h.2.1 j ∧ (rx_nw h t n).2.2.1 j = h.2.2.1 j ∧ (rx_nw h t n).2.2.2 j = h.2.2.2 j := by
  unfold rx_nw
  refine ⟨List.getElem?_append_left hj, rx_row_ne (by omega), rx_row_ne (by omega), rx_row_ne (by omega)⟩
theorem rx_nw_E {ad : Nat → Nat} {dA : Nat → ClassId} {h : rx_H} {t n j : Nat} (hj : j < h.1.length) : rx_E ad dA (rx_nw h t n) j = rx_E ad dA h j := by
  obtain ⟨h1, h2, h3, h4⟩ := rx_nw_old (t := t) (n := n) hj
  exact rx_E_congr h1 h2 h3 h4
theorem rx_len_pos {h : rx_H} {q : Nat × Nat} (g : h.1[0]? = some q) : 0 < h.1.length := (List.getElem?_eq_some_iff.mp g).1
/-- a new cell's place: the next one -/
theorem rx_place {D : va_G} {dA : Nat → ClassId} {b base q c0 cells sz : Nat} {h : rx_H} {H1 : Heap} {x : va_E} (hP : va_P D rx_cls (rx_W b base dA h ++ [(q, x)]) H1) (hD : va_D (fun z => base ≤ z) (rx_W b base dA h ++ [(q, x)])) (hz : sz + 1 = base + c0) (hc : cells + c0 = h.1.length) (hsz : H1.size ≤ sz + (cells + 1)) (h0 : 0 < h.1.length) : q = base + (h.1.length - 1) := by
  have hl : (rx_W b base dA h).length = h.1.length - 1 := by unfold rx_W; simp
  have hq : (rx_W b base dA h ++ [(q, x)])[h.1.length - 1]? = some (q, x) := by
    rw [List.getElem?_append_right (by omega), hl]
    simp
  have h1 : q < H1.size := (hP _ _ hq).lt
  have h2 : base ≤ q := hD.2 _ _ hq
  have h3 : ∀ j, j + 1 < h.1.length → q ≠ base + j := by
    intro j hj e
    have hg : (rx_W b base dA h ++ [(q, x)])[j]? = some (base + j, rx_E (rx_ad b base) dA h (j + 1)) := by
      rw [List.getElem?_append_left (by omega)]
      exact rx_W_get hj
    have := hD.1 _ _ _ _ hg hq e.symm
    omega
  rcases Nat.lt_or_ge (q - base + 1) h.1.length with g | g
  · exact absurd (show q = base + (q - base) by omega) (h3 _ g)
  · omega
/-- the relation behind a new cell -/
theorem rx_rel_new {D : va_G} {dA : Nat → ClassId} {b base t n q : Nat} {U : State} {h : rx_H} {H0 H H1 : Heap} {locs : List Loc} {x : va_E} (g : rx_rel D dA b base U h H) (hq : q = base + (h.1.length - 1))
    (hx : x = rx_E (rx_ad b base) dA (rx_nw h t n) h.1.length) (hP : va_P D rx_cls (rx_W b base dA h ++ [(q, x)]) H1) (hz : base ≤ H0.size) (hS0 : va_S (fun q => base ≤ q) H0 H locs) (hS : va_S (fun q => base ≤ q) H0 H1 locs) : rx_rel D dA b base U (rx_nw h t n) H1 := by
  obtain ⟨-, h2e, h3, h4, L, h5, scr, h6, h7⟩ := g
  have h0 := rx_len_pos h5
  subst hq
  rw [rx_W_app (h2 := rx_nw h t n) (z := (t, n)) h0 rfl (fun j hj => rx_nw_E hj) x hx] at hP
  obtain ⟨e1, e2, -, -⟩ := rx_nw_old (h := h) (t := t) (n := n) h0
  refine ⟨hP, h2e, h3, Nat.le_trans hz hS.1, L, by rw [e1]; exact h5, ?_⟩
  rw [e2]
  exact ⟨scr, by rw [hS.2.1 b (by omega) (Nat.not_le.mpr h3), ← hS0.2.1 b (by omega) (Nat.not_le.mpr h3)]; exact h6, h7⟩
section RXN
variable {p : Program} {l : Launch} {e : Env} {R : Room} {s : State} {m : MethodId} {args : Array Value} {below : List Frame} {meth : Method} {c : Code} {Q : State → Prop} {D : va_G} {dA : Nat → ClassId} {b base c0 s0 nL : Nat}
theorem rx_sized {H : Heap} {locs : List Loc} {cells slots : Nat} {g : JFrame} (k : H.size ≤ s.heap.size + cells → W p l e R s m args below meth c H locs cells slots Q g) : W p l e R s m args below meth c H locs cells slots Q g :=
  fun T hT X => k (by rw [← hT]; exact X.heapSize) T hT X
theorem rx_s_new {j pc : Nat} {ls st : List Value} {h : rx_H} {ci : Nat} (C : rx_at j p R s m args meth c base c0 nL) (hP : rx_P j pc = some (.new ci)) (hR : (rx_nw h ci (rx_tys.getD ci []).length).1.length ≤ R.cells + c0 ∧ rx_us (rx_nw h ci (rx_tys.getD ci []).length) ≤ R.slots + s0)
    (k : rx_K p l e R s m args below meth c Q D dA b base c0 s0 nL (pc + 3, ls, .ref h.1.length :: st, rx_nw h ci (rx_tys.getD ci []).length)) : rx_K p l e R s m args below meth c Q D dA b base c0 s0 nL (pc, ls, st, h) := by
  obtain ⟨hx, hb, hml, hown, hts, hfr, hlo, hin, hz, hbz⟩ := C
  have hk := (rx_P_ok hP).1
  obtain ⟨hj, hmem⟩ := rx_P_mem hP
  have hsys := List.all_eq_true.mp (List.all_eq_true.mp rx_sys_ok j (List.mem_range.mpr hj)) _ hmem
  intro H locs cells slots lc hr hS hl hn hc hs
  subst hn
  have hc : cells + c0 = h.1.length := hc
  have hs : slots + s0 = rx_us h := hs
  obtain ⟨i2, n2, g1, g2, g3, -⟩ := rx_dec hk
  have g4 : n2 = 3 := g3.elim (fun q => by cases q) id
  subst g4
  cases i2 with
  | new x =>
    have hci : ci < 13 := of_decide_eq_true hsys
    obtain ⟨q, hq⟩ : ∃ q, rx_cls[ci]? = some q := ⟨_, List.getElem?_eq_getElem (by exact hci)⟩
    obtain ⟨CC, T, N⟩ := q
    obtain ⟨k1, k2, k3, k4, k5⟩ := rx_cls_ok hq
    have hcl : Cond.classLink (rx_own (rx_m j).2.2.2.2.2.2.1) x CC ∈ rx_tb := by
      have := rx_ncl_in _ (List.mem_map.mpr ⟨_, of_decide_eq_true g2, rfl⟩)
      unfold rx_ncw at this
      dsimp only at this
      rw [rx_own_cls hq] at this
      exact this
    have hins : Cond.instantiable CC N ∈ rx_tb := rx_news_in _ (List.mem_map.mpr ⟨_, List.mem_of_getElem? hq, rfl⟩)
    have hini : Cond.initialized CC ∈ rx_tb := by
      refine rx_inis_in _ (List.mem_map.mpr ⟨CC, ?_, rfl⟩)
      have : rx_cls.all (fun q => decide (q.1 ∈ rx_inis)) = true := by decide +kernel
      exact of_decide_eq_true (List.all_eq_true.mp this _ (List.mem_of_getElem? hq))
    have h0 : 0 < h.1.length := rx_len_pos hr.2.2.2.2.choose_spec.1
    have hlen : (rx_nw h ci (rx_tys.getD ci []).length).1.length = h.1.length + 1 := by unfold rx_nw; simp
    have hcells : cells + 1 ≤ R.cells := by have := hR.1; omega
    have hslots : slots + N ≤ R.slots := by have := hR.2; rw [rx_us_nw, k4] at this; omega
    refine va_new (fs := (List.range (rx_tys.getD ci []).length).map (rx_fv (rx_ad b base) (rx_nw h ci (rx_tys.getD ci []).length) h.1.length ci)) hx hb hts k1 (rx_ty ci) k2 hown (hts _ hcl) (hts _ hins) (hts _ hini) hr.2.1.1 hr.1 rx_W_D hS (fun q hq => Nat.le_trans hbz hq) hq (fun q hq => ?_) hcells hslots g1 (fun q H1 hP1 hD1 hS1 => ?_)
    · rw [← k4] at hq
      unfold vp_V
      rw [List.getD_eq_getElem?_getD, List.getElem?_map, List.getElem?_range hq]
      show _ = rx_fv _ _ _ _ _
      unfold rx_fv
      have e1 : (rx_nw h ci (rx_tys.getD ci []).length).2.1 h.1.length = fun _ => 0 := rx_row_eq
      have e2 : (rx_nw h ci (rx_tys.getD ci []).length).2.2.1 h.1.length = fun _ => 0 := rx_row_eq
      have e3 : (rx_nw h ci (rx_tys.getD ci []).length).2.2.2 h.1.length = fun _ => none := rx_row_eq
      rw [e1, e2, e3]
      obtain ⟨n1, n2⟩ := rx_ty_num hq
      cases ht : rx_ty ci q <;> first | rfl | exact absurd ht n1 | exact absurd ht n2
    · refine rx_sized (fun hsz => ?_)
      have hpl := rx_place hP1 hD1 hz hc hsz h0
      have hE : (Sum.inr (ci, (List.range (rx_tys.getD ci []).length).map (rx_fv (rx_ad b base) (rx_nw h ci (rx_tys.getD ci []).length) h.1.length ci)) : va_E) = rx_E (rx_ad b base) dA (rx_nw h ci (rx_tys.getD ci []).length) h.1.length := (rx_E_obj rx_nw_get k5).symm
      have := k H1 locs (cells + 1) (slots + N) lc (rx_rel_new hr hpl hE hP1 hbz hS hS1) hS1 hl rfl (by rw [hlen]; omega) (by rw [rx_us_nw, k4]; omega)
      rw [List.map_cons] at this
      have e4 : rx_mv (rx_ad b base) (.ref h.1.length) = .ref q := by
        rw [hpl]
        show Value.ref (rx_ad b base h.1.length) = _
        obtain ⟨z, hz2⟩ : ∃ z, h.1.length = z + 1 := ⟨h.1.length - 1, by omega⟩
        rw [hz2]
        rfl
      rw [e4] at this
      exact this
  | _ => exact absurd g2 (by simp [rx_lk])
end RXN
