/-! One step, where the heap is read or written. -/
theorem rx_ad_inj {b base x y : Nat} (h : b < base) (e : rx_ad b base x = rx_ad b base y) : x = y := by
  cases x <;> cases y <;> simp only [rx_ad] at e <;> omega
theorem rx_map_inj {b base : Nat} {x y : Option Nat} (h : b < base) : x.map (rx_ad b base) = y.map (rx_ad b base) ↔ x = y := by
  cases x <;> cases y <;> simp
  exact ⟨fun e => rx_ad_inj h e, fun e => by rw [e]⟩
theorem rx_ac_rf {v : Value} {x : Option Nat} (h : rx_ac v = some x) : v = va_rf x := by
  cases v <;> simp [rx_ac] at h <;> subst h <;> rfl
theorem rx_is_spec {h : rx_H} {i t k : Nat} (g : rx_is h i t k = true) : ∃ (i2 n : Nat), i = i2 + 1 ∧ h.1[i]? = some (t, n) ∧ k < n := by
  unfold rx_is at g
  cases hi : h.1[i]? with
  | none => rw [hi] at g; cases g
  | some q =>
    obtain ⟨t2, n⟩ := q
    rw [hi] at g
    simp only [Bool.and_eq_true] at g
    have e := Nat.eq_of_beq_eq_true g.1.1
    have e2 : k < n := Nat.lt_of_lt_of_le (Nat.lt_succ_self k) (Nat.le_of_ble_eq_true g.1.2)
    have e3 : 0 < i := Nat.le_of_ble_eq_true g.2
    exact ⟨i - 1, n, by omega, by rw [e], e2⟩
theorem rx_kind_spec {h : rx_H} {i t : Nat} (ht : t < 99) (g : rx_kind h i = t) : ∃ n, h.1[i]? = some (t, n) ∧ rx_len h i = n := by
  unfold rx_kind at g
  unfold rx_len
  cases hi : h.1[i]? with
  | none => rw [hi] at g; dsimp only at g; omega
  | some q =>
    obtain ⟨t2, n⟩ := q
    rw [hi] at g
    dsimp only at g
    exact ⟨n, by rw [g], rfl⟩
theorem rx_in_vp {x : Int32} {n : Nat} (h : rx_in x n = true) : vp_in x n := by
  unfold rx_in at h
  unfold vp_in
  exact of_decide_eq_true h
theorem rx_fl_spec {ct x e : Nat} (h : (ct, x, e) ∈ rx_fl) : ∃ (C : String) (T : u_T) (N : Nat), rx_cls[e / 64]? = some (C, T, N) ∧ e % 64 < N ∧ (T (e % 64)).1 = C ∧ Cond.fieldLink (rx_own ct) x C (T (e % 64)).2.1 (T (e % 64)).2.2.1 ∈ rx_tb := by
  have h1 := List.all_eq_true.mp rx_fl_cl _ h
  have h2 := rx_fl_in _ (List.mem_map.mpr ⟨_, h, rfl⟩)
  unfold rx_flw at h2
  dsimp only at h1 h2
  cases hc : rx_cls[e / 64]? with
  | none => rw [hc] at h1; cases h1
  | some q =>
    obtain ⟨C, T, N⟩ := q
    rw [hc] at h1 h2
    simp only [Bool.and_eq_true, decide_eq_true_eq] at h1
    exact ⟨C, T, N, rfl, h1.1, h1.2, h2⟩
theorem rx_E_obj {ad : Nat → Nat} {dA : Nat → ClassId} {h : rx_H} {i t n : Nat} (g : h.1[i]? = some (t, n)) (ht : t < 13) : rx_E ad dA h i = .inr (t, (List.range n).map (rx_fv ad h i t)) := by
  unfold rx_E; rw [g]; dsimp only; rw [if_pos ht]
theorem rx_E_arr {ad : Nat → Nat} {dA : Nat → ClassId} {h : rx_H} {i t n : Nat} (g : h.1[i]? = some (t, n)) (ht : ¬ t < 13) : rx_E ad dA h i = .inl (dA t, n, rx_av ad h i t) := by
  unfold rx_E; rw [g]; dsimp only; rw [if_neg ht]
theorem rx_av_i {ad : Nat → Nat} {h : rx_H} {i t : Nat} (h1 : t ≠ 15) (h2 : t < 17) : rx_av ad h i t = .inl (h.2.1 i) := by unfold rx_av; rw [if_neg h1, if_pos h2]
theorem rx_av_l {ad : Nat → Nat} {h : rx_H} {i : Nat} : rx_av ad h i 15 = .inr (.inl (h.2.2.1 i)) := by unfold rx_av; rw [if_pos rfl]
theorem rx_av_q {ad : Nat → Nat} {h : rx_H} {i t : Nat} (h2 : ¬ t < 17) : rx_av ad h i t = .inr (.inr (.inr (.inr (fun j => (h.2.2.2 i j).map ad)))) := by unfold rx_av; rw [if_neg (by omega), if_neg h2]
theorem rx_lt_len {h : rx_H} {i : Nat} {q : Nat × Nat} (g : h.1[i]? = some q) : i < h.1.length := (List.getElem?_eq_some_iff.mp g).1
/-- the relation behind a write into one cell -/
theorem rx_rel_set {D : va_G} {dA : Nat → ClassId} {b base i : Nat} {U : State} {h h2 : rx_H} {H0 H H1 : Heap} {locs locs1 : List Loc} {x : va_E} (g : rx_rel D dA b base U h H) (hs : h2.1 = h.1) (he : ∀ j, j ≠ i + 1 → h2.2.1 j = h.2.1 j ∧ h2.2.2.1 j = h.2.2.1 j ∧ h2.2.2.2 j = h.2.2.2 j)
    (hx : x = rx_E (rx_ad b base) dA h2 (i + 1)) (hP : va_P D rx_cls ((rx_W b base dA h).set i (base + i, x)) H1) (hz : base ≤ H0.size) (hS0 : va_S (fun q => base ≤ q) H0 H locs) (hS : va_S (fun q => base ≤ q) H0 H1 locs1) : rx_rel D dA b base U h2 H1 := by
  obtain ⟨-, h2e, h3, h4, L, h5, scr, h6, h7⟩ := g
  rw [rx_W_set hs (fun j hj => rx_E_congr (by rw [hs]) (he j hj).1 (he j hj).2.1 (he j hj).2.2) x hx] at hP
  refine ⟨hP, h2e, h3, Nat.le_trans hz hS.1, L, by rw [hs]; exact h5, ?_⟩
  rw [(he 0 (by omega)).1]
  exact ⟨scr, by rw [hS.2.1 b (by omega) (Nat.not_le.mpr h3), ← hS0.2.1 b (by omega) (Nat.not_le.mpr h3)]; exact h6, h7⟩
theorem rx_own_cls {ci : Nat} {C : String} {T : u_T} {N : Nat} (h : rx_cls[ci]? = some (C, T, N)) : rx_own ci = C := by
  match ci, h with
  | 0, h => cases h; rfl
  | 1, h => cases h; rfl
  | 2, h => cases h; rfl
  | 3, h => cases h; rfl
  | 4, h => cases h; rfl
  | 5, h => cases h; rfl
  | 6, h => cases h; rfl
  | 7, h => cases h; rfl
  | 8, h => cases h; rfl
  | 9, h => cases h; rfl
  | 10, h => cases h; rfl
  | 11, h => cases h; rfl
  | 12, h => cases h; rfl
  | n + 13, h => exact absurd h (by simp [rx_cls])
section RXH
variable {p : Program} {l : Launch} {e : Env} {R : Room} {s : State} {m : MethodId} {args : Array Value} {below : List Frame} {meth : Method} {c : Code} {Q : State → Prop} {D : va_G} {dA : Nat → ClassId} {b base c0 s0 nL : Nat}
theorem rx_acmp_eq {j pc : Nat} {ls st : List Value} {h : rx_H} {v w : Value} {x y : Option Nat} {off : Int} (C : rx_at j p R s m args meth c base c0 nL) (hP : rx_P j pc = some (.if_acmp .eq off)) (hv : rx_ac v = some x) (hw : rx_ac w = some y)
    (kt : x = y → rx_K p l e R s m args below meth c Q D dA b base c0 s0 nL (rx_to pc off, ls, st, h)) (kf : ¬ x = y → rx_K p l e R s m args below meth c Q D dA b base c0 s0 nL (pc + 3, ls, st, h)) : rx_K p l e R s m args below meth c Q D dA b base c0 s0 nL (pc, ls, w :: v :: st, h) := by
  obtain ⟨hx, hb, hml, hown, hts, hfr, hlo, hin, hz, hbz⟩ := C
  have hk := (rx_P_ok hP).1
  obtain ⟨-, -, -, -, -, ht⟩ := rx_dec hk
  have ht := rx_tgt (of_decide_eq_true ht)
  intro H locs cells slots lc hr hS hl hn hc hs
  subst hn
  rw [rx_ac_rf hv, rx_ac_rf hw]
  show W p l e R s m args below meth c H locs cells slots Q (F0 m pc lc (rx_mv _ (va_rf y) :: rx_mv _ (va_rf x) :: st.map _))
  rw [rx_mv_rf, rx_mv_rf]
  exact lv_acmp_eq hx hb (rx_dec1 hk (fun _ => rfl) rfl) ht (fun q => kt ((rx_map_inj hr.2.2.1).mp q) H locs cells slots lc hr hS hl rfl hc hs) (fun q => kf (fun z => q ((rx_map_inj hr.2.2.1).mpr z)) H locs cells slots lc hr hS hl rfl hc hs)
theorem rx_acmp_ne {j pc : Nat} {ls st : List Value} {h : rx_H} {v w : Value} {x y : Option Nat} {off : Int} (C : rx_at j p R s m args meth c base c0 nL) (hP : rx_P j pc = some (.if_acmp .ne off)) (hv : rx_ac v = some x) (hw : rx_ac w = some y)
    (kt : ¬ x = y → rx_K p l e R s m args below meth c Q D dA b base c0 s0 nL (rx_to pc off, ls, st, h)) (kf : x = y → rx_K p l e R s m args below meth c Q D dA b base c0 s0 nL (pc + 3, ls, st, h)) : rx_K p l e R s m args below meth c Q D dA b base c0 s0 nL (pc, ls, w :: v :: st, h) := by
  obtain ⟨hx, hb, hml, hown, hts, hfr, hlo, hin, hz, hbz⟩ := C
  have hk := (rx_P_ok hP).1
  obtain ⟨-, -, -, -, -, ht⟩ := rx_dec hk
  have ht := rx_tgt (of_decide_eq_true ht)
  intro H locs cells slots lc hr hS hl hn hc hs
  subst hn
  rw [rx_ac_rf hv, rx_ac_rf hw]
  show W p l e R s m args below meth c H locs cells slots Q (F0 m pc lc (rx_mv _ (va_rf y) :: rx_mv _ (va_rf x) :: st.map _))
  rw [rx_mv_rf, rx_mv_rf]
  exact lv_acmp_ne hx hb (rx_dec1 hk (fun _ => rfl) rfl) ht (fun q => kt (fun z => q ((rx_map_inj hr.2.2.1).mpr z)) H locs cells slots lc hr hS hl rfl hc hs) (fun q => kf ((rx_map_inj hr.2.2.1).mp q) H locs cells slots lc hr hS hl rfl hc hs)
/-- what getfield reads -/
def rx_gv (h : rx_H) (i e : Nat) : Value := match rx_kd (rx_ty (e / 64) (e % 64)) with
  | 1 => .long (h.2.2.1 i (e % 64))
  | 2 => va_rf (h.2.2.2 i (e % 64))
  | _ => .int (h.2.1 i (e % 64))
theorem rx_gv_mv (ad : Nat → Nat) (h : rx_H) (i e : Nat) : rx_mv ad (rx_gv h i e) = rx_fv ad h i (e / 64) (e % 64) := by
  unfold rx_gv rx_fv
  generalize rx_kd (rx_ty (e / 64) (e % 64)) = z
  match z with
  | 0 => rfl
  | 1 => rfl
  | 2 => exact rx_mv_rf _ _
  | n + 3 => rfl
theorem rx_s_getfield {j pc : Nat} {ls st : List Value} {h : rx_H} {f i : Nat} (C : rx_at j p R s m args meth c base c0 nL) (hP : rx_P j pc = some (.getfield f)) (hi : rx_is h i (f / 64) (f % 64) = true)
    (k : rx_K p l e R s m args below meth c Q D dA b base c0 s0 nL (pc + 3, ls, rx_gv h i f :: st, h)) : rx_K p l e R s m args below meth c Q D dA b base c0 s0 nL (pc, ls, .ref i :: st, h) := by
  obtain ⟨hx, hb, hml, hown, hts, hfr, hlo, hin, hz, hbz⟩ := C
  have hk := (rx_P_ok hP).1
  intro H locs cells slots lc hr hS hl hn hc hs
  subst hn
  obtain ⟨i2, n2, g1, g2, g3, -⟩ := rx_dec hk
  have g4 : n2 = 3 := g3.elim (fun q => by cases q) id
  subst g4
  cases i2 with
  | getfield x =>
    obtain ⟨CC, T, N, q1, q2, q3, q4⟩ := rx_fl_spec (of_decide_eq_true g2)
    obtain ⟨i', n, rfl, w1, w2⟩ := rx_is_spec hi
    obtain ⟨k1, k2, k3, k4, k5⟩ := rx_cls_ok q1
    have he := rx_W_get (b := b) (base := base) (dA := dA) (rx_lt_len w1)
    rw [rx_E_obj w1 k5] at he
    refine va_get (v := rx_fv (rx_ad b base) h (i' + 1) (f / 64) (f % 64)) hx hb hts k1 hown hr.2.1.1 hr.1 i' he q1 (f % 64) q2 (hts _ q4) (fun z hz => by rw [← q3]; exact hz) ?_ g1 ?_
    · rw [List.getElem?_map, List.getElem?_range w2]; rfl
    · have := k H locs cells slots lc hr hS hl rfl hc hs
      rw [← rx_gv_mv]
      exact this
  | _ => exact absurd g2 (by simp [rx_lk])
/-- what putfield writes -/
theorem rx_putfield_gen {j pc : Nat} {ls st : List Value} {h h2 : rx_H} {f i : Nat} {v : Value} (C : rx_at j p R s m args meth c base c0 nL) (hP : rx_P j pc = some (.putfield f)) (hi : rx_is h i (f / 64) (f % 64) = true)
    (hn : narrow (rx_ty (f / 64) (f % 64)) (rx_mv (rx_ad b base) v) = rx_mv (rx_ad b base) v) (hf : fits (rx_ty (f / 64) (f % 64)) (rx_mv (rx_ad b base) v) = true)
    (hsh : h2.1 = h.1) (hoth : ∀ a, a ≠ i → h2.2.1 a = h.2.1 a ∧ h2.2.2.1 a = h.2.2.1 a ∧ h2.2.2.2 a = h.2.2.2 a)
    (hnew : ∀ q, rx_fv (rx_ad b base) h2 i (f / 64) q = if q = f % 64 then rx_mv (rx_ad b base) v else rx_fv (rx_ad b base) h i (f / 64) q)
    (k : rx_K p l e R s m args below meth c Q D dA b base c0 s0 nL (pc + 3, ls, st, h2)) : rx_K p l e R s m args below meth c Q D dA b base c0 s0 nL (pc, ls, v :: .ref i :: st, h) := by
  obtain ⟨hx, hb, hml, hown, hts, hfr, hlo, hin, hz, hbz⟩ := C
  have hk := (rx_P_ok hP).1
  obtain ⟨hj, hmem⟩ := rx_P_mem hP
  intro H locs cells slots lc hr hS hl hnn hc hs
  subst hnn
  obtain ⟨i2, n2, g1, g2, g3, -⟩ := rx_dec hk
  have g4 : n2 = 3 := g3.elim (fun q => by cases q) id
  subst g4
  cases i2 with
  | putfield x =>
    obtain ⟨CC, T, N, q1, q2, q3, q4⟩ := rx_fl_spec (of_decide_eq_true g2)
    obtain ⟨i', n, rfl, w1, w2⟩ := rx_is_spec hi
    obtain ⟨k1, k2, k3, k4, k5⟩ := rx_cls_ok q1
    have he := rx_W_get (b := b) (base := base) (dA := dA) (rx_lt_len w1)
    rw [rx_E_obj w1 k5] at he
    have hfin := List.all_eq_true.mp (List.all_eq_true.mp rx_fin_ok j (List.mem_range.mpr hj)) _ hmem
    dsimp only at hfin
    rw [q1] at hfin
    dsimp only at hfin
    have key : ∀ (H1 : Heap) (locs1 : List Loc), va_P D rx_cls ((rx_W b base dA h).set i' (base + i', .inr (f / 64, ((List.range n).map (rx_fv (rx_ad b base) h (i' + 1) (f / 64))).set (f % 64) (rx_mv (rx_ad b base) v)))) H1 → va_D (fun q => base ≤ q) ((rx_W b base dA h).set i' (base + i', .inr (f / 64, ((List.range n).map (rx_fv (rx_ad b base) h (i' + 1) (f / 64))).set (f % 64) (rx_mv (rx_ad b base) v)))) → va_S (fun q => base ≤ q) s.heap H1 locs1 → W p l e R s m args below meth c H1 locs1 cells slots Q (F0 m (pc + 3) lc (st.map (rx_mv (rx_ad b base)))) := by
      intro H1 locs1 hP1 hD1 hS1
      have hw1 : h2.1[i' + 1]? = some (f / 64, n) := by rw [hsh]; exact w1
      refine k H1 locs1 cells slots lc (rx_rel_set hr hsh (fun a ha => hoth a ha) ?_ hP1 hbz hS hS1) hS1 hl rfl (by rw [hsh]; exact hc) (by unfold rx_us; rw [hsh]; exact hs)
      rw [rx_E_obj hw1 k5]
      congr 2
      apply List.ext_getElem?
      intro q
      rw [List.getElem?_set]
      by_cases hq : q < n
      · by_cases hqf : f % 64 = q
        · rw [if_pos hqf, if_pos (by simp; omega), List.getElem?_map, List.getElem?_range hq]
          show _ = some _
          rw [hnew q, if_pos hqf.symm]
        · rw [if_neg hqf, List.getElem?_map, List.getElem?_map, List.getElem?_range hq]
          show some _ = some _
          rw [hnew q, if_neg (fun z => hqf z.symm)]
      · have e1 : ((List.range n).map (rx_fv (rx_ad b base) h2 (i' + 1) (f / 64)))[q]? = none := by simp; omega
        rw [e1]
        by_cases hqf : f % 64 = q
        · omega
        · rw [if_neg hqf]; simp; omega
    have hty : parseFieldDescriptor (T (f % 64)).2.2.1 = some (rx_ty (f / 64) (f % 64)) := k2 _ q2
    have hlen : f % 64 < ((List.range n).map (rx_fv (rx_ad b base) h (i' + 1) (f / 64))).length := by simp; exact w2
    cases hfl : (T (f % 64)).2.2.2 with
    | false => exact va_put hx hb hts k1 (rx_ty (f / 64)) k2 k3 hown hr.2.1.1 hr.1 rx_W_D hS i' he q1 (f % 64) q2 (hts _ q4) (fun z hz => by rw [← q3]; exact hz) hfl hty hn hf hlen g1 key
    | true =>
      rw [hfl] at hfin
      simp only [Bool.not_true, Bool.false_or, Bool.and_eq_true] at hfin
      have hct := Nat.eq_of_beq_eq_true hfin.2
      have hdecl : (T (f % 64)).1 = rx_own (rx_m j).2.2.2.2.2.2.1 := by
        rw [q3, hct]
        exact (rx_own_cls q1).symm
      exact va_putF hx hb hts k1 (rx_ty (f / 64)) k2 k3 hown hr.2.1.1 hr.1 rx_W_D hS i' he q1 (f % 64) q2 (hts _ q4) (fun z hz => by rw [← q3]; exact hz) hfl (hin hfin.1) hdecl hty hn hf hlen g1 key
  | _ => exact absurd g2 (by simp [rx_lk])
end RXH
