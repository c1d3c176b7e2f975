/-! The main theorem: where the small machine's run ends, the machine's does, with its answer. -/
theorem rx_plain : rx_kml.all (fun q => Nat.beq q.2.2 0 || Jvm.plainName (rx_m q.2.2).1.cls) = true ∧ rx_nml.all (fun q => Jvm.plainName (rx_m (q.2.2 % 1000)).1.cls) = true := by decide +kernel
def rx_gw : List Cond := rx_tb.filter goodWord
set_option maxRecDepth 100000 in
theorem rx_words : ((lw_tbl.filter rx_use).filter (fun w => !goodWord w)).all (fun w => decide (w ∈ rx_nml.map rx_nlw) || decide (w ∈ ([.arrayOver (.object "CartFloor$Cart"), .arrayOver (.object "CartFloor$Shelf")] : List Cond))) = true := by decide +kernel
def rx_ws (j : Nat) : List Cond := rx_codew j :: rx_gw
theorem rx_code_mem {j : Nat} (h0 : 0 < j) (h : j < 246) : rx_codew j ∈ rx_tb := rx_code_in _ (List.mem_map.mpr ⟨j, List.mem_range'_1.mpr ⟨h0, by omega⟩, rfl⟩)
theorem rx_ws_good {j : Nat} (h0 : 0 < j) (h : j < 246) : GoodIn rx_tb (rx_ws j) := by
  intro w hw
  rcases List.mem_cons.mp hw with rfl | hw
  · exact ⟨rx_code_mem h0 h, good_of_word rfl⟩
  · obtain ⟨h1, h2⟩ := List.mem_filter.mp hw
    exact ⟨h1, good_of_word h2⟩
/-- all words hold where the good ones do and the tables are known -/
theorem rx_words_all {args : Array Value} {s : State} {D : va_G} {dA : Nat → ClassId} (hg : ∀ w ∈ rx_gw, w.before args s = true) (he : rx_env D dA s) : ∀ w ∈ rx_tb, w.before args s = true := by
  intro w hw
  cases hgw : goodWord w with
  | true => exact hg w (List.mem_filter.mpr ⟨hw, hgw⟩)
  | false =>
  have h1 := List.all_eq_true.mp rx_words w (List.mem_filter.mpr ⟨hw, by rw [hgw]; rfl⟩)
  rw [Bool.or_eq_true] at h1
  rcases h1 with h1 | h1
  · have h2 := he.2.1 w (of_decide_eq_true h1)
    obtain ⟨q, -, rfl⟩ := List.mem_map.mp (of_decide_eq_true h1)
    exact va_Nw.use rfl h2
  · have h2 := of_decide_eq_true h1
    rcases List.mem_cons.mp h2 with rfl | h2
    · exact va_AO.use he.2.2.1
    · rw [List.mem_singleton.mp h2]
      exact va_AO.use he.2.2.2
/-- the locals at a method's entry -/
theorem rx_args_al {f : Value → Value} (hf : ∀ v, (f v).category = v.category) : ∀ (as : List Value) (k i : Nat) (v : Value), (rx_sl2 as)[i]? = some v → rx_un v = false → (k + i, f v) ∈ lv_args k (as.map f)
  | [], k, i, v, h, _ => by simp [rx_sl2] at h
  | a :: as, k, i, v, h, hu => by
    have e : rx_sl2 (a :: as) = (if a.category = 2 then [a, rx_no] else [a]) ++ rx_sl2 as := by simp [rx_sl2]
    rw [e] at h
    rw [List.map_cons, lv_args, hf a]
    by_cases hc : a.category = 2
    · rw [if_pos hc] at h ⊢
      match i, h with
      | 0, h =>
        have : a = v := by simpa using h
        subst this
        exact List.mem_cons_self
      | 1, h =>
        have : rx_no = v := by simpa using h
        subst this
        cases hu
      | i + 2, h =>
        have h2 : (rx_sl2 as)[i]? = some v := by simpa using h
        have := rx_args_al hf as (k + 2) i v h2 hu
        rw [show k + 2 + i = k + (i + 2) by omega] at this
        exact List.mem_cons_of_mem _ this
    · rw [if_neg hc] at h ⊢
      match i, h with
      | 0, h =>
        have : a = v := by simpa using h
        subst this
        exact List.mem_cons_self
      | i + 1, h =>
        have h2 : (rx_sl2 as)[i]? = some v := by simpa using h
        have := rx_args_al hf as (k + 1) i v h2 hu
        rw [show k + 1 + i = k + (i + 1) by omega] at this
        exact List.mem_cons_of_mem _ this
theorem rx_sl2_len {f : Value → Value} (hf : ∀ v, (f v).category = v.category) : ∀ as : List Value, (lg_sl (as.map f)).length = (rx_sl2 as).length
  | [] => rfl
  | a :: as => by
    have e : rx_sl2 (a :: as) = (if a.category = 2 then [a, rx_no] else [a]) ++ rx_sl2 as := by simp [rx_sl2]
    have e2 : lg_sl ((a :: as).map f) = (if (f a).category = 2 then [.val (f a), .second] else [.val (f a)]) ++ lg_sl (as.map f) := by simp [lg_sl]
    rw [e, e2, hf a, List.length_append, List.length_append, rx_sl2_len hf as]
    split <;> rfl
theorem rx_entry {ad : Nat → Nat} {as : List Value} {n : Nat} (h : (rx_sl2 as).length ≤ n) : lv_has ((lg_sl (as.map (rx_mv ad)) ++ List.replicate (n - (lg_sl (as.map (rx_mv ad))).length) Slot.unset).toArray) n (rx_al (rx_mv ad) (rx_args n as)) := by
  have h1 := lv_entry (as.map (rx_mv ad)) (n := n) (by rw [rx_sl2_len (rx_mv_cat ad)]; exact h)
  refine ⟨h1.1, h1.2.1, fun q hq => h1.2.2 q ?_⟩
  obtain ⟨v, hv, hu, he⟩ := rx_al_mem.mp hq
  obtain ⟨i, w⟩ := q
  dsimp only at hv he
  subst he
  have hi : i < (rx_sl2 as).length := by
    rcases Nat.lt_or_ge i (rx_sl2 as).length with g | g
    · exact g
    · unfold rx_args at hv
      rw [List.getElem?_append_right g, List.getElem?_replicate] at hv
      split at hv
      · cases hv; cases hu
      · cases hv
  unfold rx_args at hv
  rw [List.getElem?_append_left hi] at hv
  have := rx_args_al (rx_mv_cat ad) as 0 i v hv hu
  rw [Nat.zero_add] at this
  exact this
theorem rx_args_len {n : Nat} {as : List Value} (h : (rx_sl2 as).length ≤ n) : (rx_args n as).length = n := by
  unfold rx_args
  rw [List.length_append, List.length_replicate]
  omega
theorem rx_size {D : va_G} {dA : Nat → ClassId} {b base c0 cells sz : Nat} {U : State} {h : rx_H} {H : Heap} (g : rx_rel D dA b base U h H) (hz : sz + 1 = base + c0) (hc : cells + c0 = h.1.length) (hs : H.size ≤ sz + cells) : H.size + 1 = base + h.1.length := by
  obtain ⟨h1, -, -, h4, L, h5, -⟩ := g
  have h0 := rx_len_pos h5
  rcases Nat.lt_or_ge 1 h.1.length with q | q
  · have e := rx_W_get (b := b) (base := base) (dA := dA) (h := h) (i := h.1.length - 2) (by omega)
    have := (h1 _ _ e).lt
    dsimp only at this
    omega
  · omega
/-- a method's contract: from the cells h on, with the arguments as, it answers r and leaves h2 -/
def rx_Pc (D : va_G) (dA : Nat → ClassId) (b base : Nat) (as : List Value) (h : rx_H) : Array Value → State → Prop := va_Pc (as.map (rx_mv (rx_ad b base))) (fun U => rx_rel D dA b base U h U.heap ∧ U.heap.size + 1 = base + h.1.length ∧ base ≤ U.heap.size)
def rx_Qc (D : va_G) (dA : Nat → ClassId) (b base : Nat) (r : Option Value) (h2 : rx_H) : Array Value → State → Outcome → State → Prop := fun _ st oc t => oc = .returned (r.map (rx_mv (rx_ad b base))) ∧ rx_rel D dA b base t h2 t.heap ∧ va_F (fun q => base ≤ q) st t
def rx_rm (j : Nat) (h h2 : rx_H) : Room := { frames := (rx_m j).2.2.2.2.2.2.2.1, cells := h2.1.length - h.1.length, slots := rx_us h2 - rx_us h, locals := (rx_m j).2.2.2.2.2.2.2.2 }
def rx_Met (l : Launch) (D : va_G) (dA : Nat → ClassId) (b base j : Nat) (as : List Value) (h : rx_H) (r : Option Value) (h2 : rx_H) : Prop :=
  Met l (rx_m j).1 (rx_ws j) (rx_rm j h h2) (rx_Pc D dA b base as h) (rx_Qc D dA b base r h2) (h2.1.length - h.1.length) (rx_us h2 - rx_us h) (fun q => base ≤ q)
theorem rx_Pc_blind {D : va_G} {dA : Nat → ClassId} {b base : Nat} {as : List Value} {h : rx_H} : FrameBlind (rx_Pc D dA b base as h) := by
  intro a U g mk q
  obtain ⟨q0, q1, q2, q3⟩ := q
  exact ⟨q0, rx_rel.moved (u := U) (U := U.calling g mk a) (State.WarmedH.refl U) q1, q2, q3⟩
