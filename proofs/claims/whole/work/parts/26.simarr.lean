/-! One step, on arrays. -/
section RXA
variable {p : Program} {l : Launch} {e : Env} {R : Room} {s : State} {m : MethodId} {args : Array Value} {below : List Frame} {meth : Method} {c : Code} {Q : State → Prop} {D : va_G} {dA : Nat → ClassId} {b base c0 s0 nL : Nat}
theorem rx_s_iaload {j pc : Nat} {ls st : List Value} {h : rx_H} {i n : Nat} {x : Int32} (C : rx_at j p R s m args meth c base c0 nL) (hP : rx_P j pc = some (.iaload)) (hi : h.1[i]? = some (14, n)) (hxn : vp_in x n) (k : rx_K p l e R s m args below meth c Q D dA b base c0 s0 nL (pc + 1, ls, .int (h.2.1 i x.toNatClampNeg) :: st, h)) : rx_K p l e R s m args below meth c Q D dA b base c0 s0 nL (pc, ls, .int x :: .ref i :: st, h) := by
  obtain ⟨hx, hb, hml, hown, hts, hfr, hlo, hin, hz, hbz⟩ := C
  have hk := (rx_P_ok hP).1
  intro H locs cells slots lc hr hS hl hn hc hs
  subst hn
  cases i with
  | zero =>
    obtain ⟨L, h5, h6⟩ := hr.2.2.2.2
    have eL : L = n := by rw [h5] at hi; cases hi; rfl
    subst eL
    exact va_sld (A := fun q => base ≤ q) (H0 := H) hx hb h6 (Nat.lt_of_lt_of_le hr.2.2.1 hr.2.2.2.1) (Nat.not_le.mpr hr.2.2.1) ⟨Nat.le_refl _, fun _ _ _ => rfl, hS.2.2⟩ hxn (rx_dec1 hk (fun _ => rfl) rfl) (k H locs cells slots lc hr hS hl rfl hc hs)
  | succ i' =>
    have he := rx_W_get (b := b) (base := base) (dA := dA) (rx_lt_len hi)
    rw [rx_E_arr hi (by decide), rx_av_i (by decide) (by decide)] at he
    exact va_iald hx hb hr.2.1.1 hr.1 i' 1 he rfl hxn (rx_dec1 hk (fun _ => rfl) rfl) (k H locs cells slots lc hr hS hl rfl hc hs)
theorem rx_s_baload13 {j pc : Nat} {ls st : List Value} {h : rx_H} {i n : Nat} {x : Int32} (C : rx_at j p R s m args meth c base c0 nL) (hP : rx_P j pc = some (.baload)) (hi : h.1[i + 1]? = some (13, n)) (hxn : vp_in x n) (k : rx_K p l e R s m args below meth c Q D dA b base c0 s0 nL (pc + 1, ls, .int (h.2.1 (i + 1) x.toNatClampNeg) :: st, h)) : rx_K p l e R s m args below meth c Q D dA b base c0 s0 nL (pc, ls, .int x :: .ref (i + 1) :: st, h) := by
  obtain ⟨hx, hb, hml, hown, hts, hfr, hlo, hin, hz, hbz⟩ := C
  have hk := (rx_P_ok hP).1
  intro H locs cells slots lc hr hS hl hn hc hs
  subst hn
  have he := rx_W_get (b := b) (base := base) (dA := dA) (rx_lt_len hi)
  rw [rx_E_arr hi (by decide), rx_av_i (by decide) (by decide)] at he
  exact va_bald hx hb hr.2.1.1 hr.1 i 0 he rfl hxn (rx_dec1 hk (fun _ => rfl) rfl) (k H locs cells slots lc hr hS hl rfl hc hs)
theorem rx_s_baload16 {j pc : Nat} {ls st : List Value} {h : rx_H} {i n : Nat} {x : Int32} (C : rx_at j p R s m args meth c base c0 nL) (hP : rx_P j pc = some (.baload)) (hi : h.1[i + 1]? = some (16, n)) (hxn : vp_in x n) (k : rx_K p l e R s m args below meth c Q D dA b base c0 s0 nL (pc + 1, ls, .int (h.2.1 (i + 1) x.toNatClampNeg) :: st, h)) : rx_K p l e R s m args below meth c Q D dA b base c0 s0 nL (pc, ls, .int x :: .ref (i + 1) :: st, h) := by
  obtain ⟨hx, hb, hml, hown, hts, hfr, hlo, hin, hz, hbz⟩ := C
  have hk := (rx_P_ok hP).1
  intro H locs cells slots lc hr hS hl hn hc hs
  subst hn
  have he := rx_W_get (b := b) (base := base) (dA := dA) (rx_lt_len hi)
  rw [rx_E_arr hi (by decide), rx_av_i (by decide) (by decide)] at he
  exact va_zald hx hb hr.2.1.1 hr.1 i 3 he rfl hxn (rx_dec1 hk (fun _ => rfl) rfl) (k H locs cells slots lc hr hS hl rfl hc hs)
theorem rx_s_laload {j pc : Nat} {ls st : List Value} {h : rx_H} {i n : Nat} {x : Int32} (C : rx_at j p R s m args meth c base c0 nL) (hP : rx_P j pc = some (.laload)) (hi : h.1[i + 1]? = some (15, n)) (hxn : vp_in x n) (k : rx_K p l e R s m args below meth c Q D dA b base c0 s0 nL (pc + 1, ls, .long (h.2.2.1 (i + 1) x.toNatClampNeg) :: st, h)) : rx_K p l e R s m args below meth c Q D dA b base c0 s0 nL (pc, ls, .int x :: .ref (i + 1) :: st, h) := by
  obtain ⟨hx, hb, hml, hown, hts, hfr, hlo, hin, hz, hbz⟩ := C
  have hk := (rx_P_ok hP).1
  intro H locs cells slots lc hr hS hl hn hc hs
  subst hn
  have he := rx_W_get (b := b) (base := base) (dA := dA) (rx_lt_len hi)
  rw [rx_E_arr hi (by decide), rx_av_l] at he
  exact va_lald hx hb hr.2.1.1 hr.1 i 2 he rfl hxn (rx_dec1 hk (fun _ => rfl) rfl) (k H locs cells slots lc hr hS hl rfl hc hs)
theorem rx_s_aaload17 {j pc : Nat} {ls st : List Value} {h : rx_H} {i n : Nat} {x : Int32} (C : rx_at j p R s m args meth c base c0 nL) (hP : rx_P j pc = some (.aaload)) (hi : h.1[i + 1]? = some (17, n)) (hxn : vp_in x n) (k : rx_K p l e R s m args below meth c Q D dA b base c0 s0 nL (pc + 1, ls, va_rf (h.2.2.2 (i + 1) x.toNatClampNeg) :: st, h)) : rx_K p l e R s m args below meth c Q D dA b base c0 s0 nL (pc, ls, .int x :: .ref (i + 1) :: st, h) := by
  obtain ⟨hx, hb, hml, hown, hts, hfr, hlo, hin, hz, hbz⟩ := C
  have hk := (rx_P_ok hP).1
  intro H locs cells slots lc hr hS hl hn hc hs
  subst hn
  have he := rx_W_get (b := b) (base := base) (dA := dA) (rx_lt_len hi)
  rw [rx_E_arr hi (by decide), rx_av_q (by decide)] at he
  refine va_aldq hx hb hr.2.1.1 hr.1 i 4 he rfl hxn (rx_dec1 hk (fun _ => rfl) rfl) ?_
  have := k H locs cells slots lc hr hS hl rfl hc hs
  rw [List.map_cons, rx_mv_rf] at this
  exact this
theorem rx_s_aaload18 {j pc : Nat} {ls st : List Value} {h : rx_H} {i n : Nat} {x : Int32} (C : rx_at j p R s m args meth c base c0 nL) (hP : rx_P j pc = some (.aaload)) (hi : h.1[i + 1]? = some (18, n)) (hxn : vp_in x n) (k : rx_K p l e R s m args below meth c Q D dA b base c0 s0 nL (pc + 1, ls, va_rf (h.2.2.2 (i + 1) x.toNatClampNeg) :: st, h)) : rx_K p l e R s m args below meth c Q D dA b base c0 s0 nL (pc, ls, .int x :: .ref (i + 1) :: st, h) := by
  obtain ⟨hx, hb, hml, hown, hts, hfr, hlo, hin, hz, hbz⟩ := C
  have hk := (rx_P_ok hP).1
  intro H locs cells slots lc hr hS hl hn hc hs
  subst hn
  have he := rx_W_get (b := b) (base := base) (dA := dA) (rx_lt_len hi)
  rw [rx_E_arr hi (by decide), rx_av_q (by decide)] at he
  refine va_aldq hx hb hr.2.1.1 hr.1 i 5 he rfl hxn (rx_dec1 hk (fun _ => rfl) rfl) ?_
  have := k H locs cells slots lc hr hS hl rfl hc hs
  rw [List.map_cons, rx_mv_rf] at this
  exact this
theorem rx_s_arraylength {j pc : Nat} {ls st : List Value} {h : rx_H} {i t n : Nat} (C : rx_at j p R s m args meth c base c0 nL) (hP : rx_P j pc = some (.arraylength)) (hi : h.1[i]? = some (t, n)) (h1 : 12 < t) (h2 : t < 19) (k : rx_K p l e R s m args below meth c Q D dA b base c0 s0 nL (pc + 1, ls, .int (Int32.ofNat n) :: st, h)) : rx_K p l e R s m args below meth c Q D dA b base c0 s0 nL (pc, ls, .ref i :: st, h) := by
  obtain ⟨hx, hb, hml, hown, hts, hfr, hlo, hin, hz, hbz⟩ := C
  have hk := (rx_P_ok hP).1
  intro H locs cells slots lc hr hS hl hn hc hs
  subst hn
  cases i with
  | zero =>
    obtain ⟨L, h5, h6⟩ := hr.2.2.2.2
    have eL : L = n := by rw [h5] at hi; cases hi; rfl
    subst eL
    exact va_slen (A := fun q => base ≤ q) (H0 := H) hx hb h6 (Nat.lt_of_lt_of_le hr.2.2.1 hr.2.2.2.1) (Nat.not_le.mpr hr.2.2.1) ⟨Nat.le_refl _, fun _ _ _ => rfl, hS.2.2⟩ (rx_dec1 hk (fun _ => rfl) rfl) (k H locs cells slots lc hr hS hl rfl hc hs)
  | succ i' =>
    have he := rx_W_get (b := b) (base := base) (dA := dA) (rx_lt_len hi)
    rw [rx_E_arr hi (by omega)] at he
    rcases (show t = 13 ∨ t = 14 ∨ t = 15 ∨ t = 16 ∨ t = 17 ∨ t = 18 by omega) with rfl | rfl | rfl | rfl | rfl | rfl
    · exact va_alen hx hb hr.2.1.1 hr.1 i' 0 he rfl rfl (rx_dec1 hk (fun _ => rfl) rfl) (k H locs cells slots lc hr hS hl rfl hc hs)
    · exact va_alen hx hb hr.2.1.1 hr.1 i' 1 he rfl rfl (rx_dec1 hk (fun _ => rfl) rfl) (k H locs cells slots lc hr hS hl rfl hc hs)
    · exact va_alen hx hb hr.2.1.1 hr.1 i' 2 he rfl rfl (rx_dec1 hk (fun _ => rfl) rfl) (k H locs cells slots lc hr hS hl rfl hc hs)
    · exact va_alen hx hb hr.2.1.1 hr.1 i' 3 he rfl rfl (rx_dec1 hk (fun _ => rfl) rfl) (k H locs cells slots lc hr hS hl rfl hc hs)
    · exact va_alen hx hb hr.2.1.1 hr.1 i' 4 he rfl rfl (rx_dec1 hk (fun _ => rfl) rfl) (k H locs cells slots lc hr hS hl rfl hc hs)
    · exact va_alen hx hb hr.2.1.1 hr.1 i' 5 he rfl rfl (rx_dec1 hk (fun _ => rfl) rfl) (k H locs cells slots lc hr hS hl rfl hc hs)
theorem rx_s_iastore {j pc : Nat} {ls st : List Value} {h : rx_H} {i n : Nat} {x : Int32} {v : Int32} (C : rx_at j p R s m args meth c base c0 nL) (hP : rx_P j pc = some (.iastore)) (hi : h.1[i + 1]? = some (14, n)) (hxn : vp_in x n) (k : rx_K p l e R s m args below meth c Q D dA b base c0 s0 nL (pc + 1, ls, st, rx_si h (i + 1) x.toNatClampNeg v)) : rx_K p l e R s m args below meth c Q D dA b base c0 s0 nL (pc, ls, .int v :: .int x :: .ref (i + 1) :: st, h) := by
  obtain ⟨hx, hb, hml, hown, hts, hfr, hlo, hin, hz, hbz⟩ := C
  have hk := (rx_P_ok hP).1
  intro H locs cells slots lc hr hS hl hn hc hs
  subst hn
  have he := rx_W_get (b := b) (base := base) (dA := dA) (rx_lt_len hi)
  rw [rx_E_arr hi (by decide), rx_av_i (by decide) (by decide)] at he
  refine va_iast hx hb hr.2.1.1 hr.1 rx_W_D hS i 1 he rfl hxn (rx_dec1 hk (fun _ => rfl) rfl) (fun H1 locs1 hP1 hD1 hS1 => ?_)
  refine k H1 locs1 cells slots lc (rx_rel_set hr rfl (fun a ha => ⟨rx_u_ne ha, rfl, rfl⟩) ?_ hP1 hbz hS hS1) hS1 hl rfl hc hs
  refine Eq.trans ?_ (rx_E_arr (h := rx_si h (i + 1) x.toNatClampNeg v) (t := 14) (n := n) hi (by decide)).symm
  rw [rx_av_i (by decide) (by decide)]
  show _ = Sum.inl (dA 14, n, Sum.inl (rx_u h.2.1 (i + 1) x.toNatClampNeg v (i + 1)))
  rw [rx_u_eq]
  rfl
theorem rx_s_bastore13 {j pc : Nat} {ls st : List Value} {h : rx_H} {i n : Nat} {x : Int32} {v : Int32} (C : rx_at j p R s m args meth c base c0 nL) (hP : rx_P j pc = some (.bastore)) (hi : h.1[i + 1]? = some (13, n)) (hxn : vp_in x n) (k : rx_K p l e R s m args below meth c Q D dA b base c0 s0 nL (pc + 1, ls, st, rx_si h (i + 1) x.toNatClampNeg (vp_nar .byte v))) : rx_K p l e R s m args below meth c Q D dA b base c0 s0 nL (pc, ls, .int v :: .int x :: .ref (i + 1) :: st, h) := by
  obtain ⟨hx, hb, hml, hown, hts, hfr, hlo, hin, hz, hbz⟩ := C
  have hk := (rx_P_ok hP).1
  intro H locs cells slots lc hr hS hl hn hc hs
  subst hn
  have he := rx_W_get (b := b) (base := base) (dA := dA) (rx_lt_len hi)
  rw [rx_E_arr hi (by decide), rx_av_i (by decide) (by decide)] at he
  refine va_bast hx hb hr.2.1.1 hr.1 rx_W_D hS i 0 he rfl hxn (rx_dec1 hk (fun _ => rfl) rfl) (fun H1 locs1 hP1 hD1 hS1 => ?_)
  refine k H1 locs1 cells slots lc (rx_rel_set hr rfl (fun a ha => ⟨rx_u_ne ha, rfl, rfl⟩) ?_ hP1 hbz hS hS1) hS1 hl rfl hc hs
  refine Eq.trans ?_ (rx_E_arr (h := rx_si h (i + 1) x.toNatClampNeg (vp_nar .byte v)) (t := 13) (n := n) hi (by decide)).symm
  rw [rx_av_i (by decide) (by decide)]
  show _ = Sum.inl (dA 13, n, Sum.inl (rx_u h.2.1 (i + 1) x.toNatClampNeg (vp_nar .byte v) (i + 1)))
  rw [rx_u_eq]
  rfl
theorem rx_s_bastore16 {j pc : Nat} {ls st : List Value} {h : rx_H} {i n : Nat} {x : Int32} {v : Int32} (C : rx_at j p R s m args meth c base c0 nL) (hP : rx_P j pc = some (.bastore)) (hi : h.1[i + 1]? = some (16, n)) (hxn : vp_in x n) (k : rx_K p l e R s m args below meth c Q D dA b base c0 s0 nL (pc + 1, ls, st, rx_si h (i + 1) x.toNatClampNeg (vp_nar .boolean v))) : rx_K p l e R s m args below meth c Q D dA b base c0 s0 nL (pc, ls, .int v :: .int x :: .ref (i + 1) :: st, h) := by
  obtain ⟨hx, hb, hml, hown, hts, hfr, hlo, hin, hz, hbz⟩ := C
  have hk := (rx_P_ok hP).1
  intro H locs cells slots lc hr hS hl hn hc hs
  subst hn
  have he := rx_W_get (b := b) (base := base) (dA := dA) (rx_lt_len hi)
  rw [rx_E_arr hi (by decide), rx_av_i (by decide) (by decide)] at he
  refine va_zast hx hb hr.2.1.1 hr.1 rx_W_D hS i 3 he rfl hxn (rx_dec1 hk (fun _ => rfl) rfl) (fun H1 locs1 hP1 hD1 hS1 => ?_)
  refine k H1 locs1 cells slots lc (rx_rel_set hr rfl (fun a ha => ⟨rx_u_ne ha, rfl, rfl⟩) ?_ hP1 hbz hS hS1) hS1 hl rfl hc hs
  refine Eq.trans ?_ (rx_E_arr (h := rx_si h (i + 1) x.toNatClampNeg (vp_nar .boolean v)) (t := 16) (n := n) hi (by decide)).symm
  rw [rx_av_i (by decide) (by decide)]
  show _ = Sum.inl (dA 16, n, Sum.inl (rx_u h.2.1 (i + 1) x.toNatClampNeg (vp_nar .boolean v) (i + 1)))
  rw [rx_u_eq]
  rfl
theorem rx_s_lastore {j pc : Nat} {ls st : List Value} {h : rx_H} {i n : Nat} {x : Int32} {v : Int64} (C : rx_at j p R s m args meth c base c0 nL) (hP : rx_P j pc = some (.lastore)) (hi : h.1[i + 1]? = some (15, n)) (hxn : vp_in x n) (k : rx_K p l e R s m args below meth c Q D dA b base c0 s0 nL (pc + 1, ls, st, rx_sl h (i + 1) x.toNatClampNeg v)) : rx_K p l e R s m args below meth c Q D dA b base c0 s0 nL (pc, ls, .long v :: .int x :: .ref (i + 1) :: st, h) := by
  obtain ⟨hx, hb, hml, hown, hts, hfr, hlo, hin, hz, hbz⟩ := C
  have hk := (rx_P_ok hP).1
  intro H locs cells slots lc hr hS hl hn hc hs
  subst hn
  have he := rx_W_get (b := b) (base := base) (dA := dA) (rx_lt_len hi)
  rw [rx_E_arr hi (by decide), rx_av_l] at he
  refine va_last hx hb hr.2.1.1 hr.1 rx_W_D hS i 2 he rfl hxn (rx_dec1 hk (fun _ => rfl) rfl) (fun H1 locs1 hP1 hD1 hS1 => ?_)
  refine k H1 locs1 cells slots lc (rx_rel_set hr rfl (fun a ha => ⟨rfl, rx_u_ne ha, rfl⟩) ?_ hP1 hbz hS hS1) hS1 hl rfl hc hs
  refine Eq.trans ?_ (rx_E_arr (h := rx_sl h (i + 1) x.toNatClampNeg v) (t := 15) (n := n) hi (by decide)).symm
  rw [rx_av_l]
  show _ = Sum.inl (dA 15, n, Sum.inr (Sum.inl (rx_u h.2.2.1 (i + 1) x.toNatClampNeg v (i + 1))))
  rw [rx_u_eq]
  rfl
theorem rx_s_aastore17 {j pc : Nat} {ls st : List Value} {h : rx_H} {i n v nv : Nat} {x : Int32} (C : rx_at j p R s m args meth c base c0 nL) (hP : rx_P j pc = some (.aastore)) (hi : h.1[i + 1]? = some (17, n)) (hv : h.1[v + 1]? = some (0, nv)) (hxn : vp_in x n) (k : rx_K p l e R s m args below meth c Q D dA b base c0 s0 nL (pc + 1, ls, st, rx_sr h (i + 1) x.toNatClampNeg (some (v + 1)))) : rx_K p l e R s m args below meth c Q D dA b base c0 s0 nL (pc, ls, .ref (v + 1) :: .int x :: .ref (i + 1) :: st, h) := by
  obtain ⟨hx, hb, hml, hown, hts, hfr, hlo, hin, hz, hbz⟩ := C
  have hk := (rx_P_ok hP).1
  intro H locs cells slots lc hr hS hl hn hc hs
  subst hn
  have he := rx_W_get (b := b) (base := base) (dA := dA) (rx_lt_len hi)
  rw [rx_E_arr hi (by decide), rx_av_q (by decide)] at he
  have hw := rx_W_get (b := b) (base := base) (dA := dA) (rx_lt_len hv)
  rw [rx_E_obj hv (by decide)] at hw
  refine va_astq (r := ("CartFloor$Cart", rx_T0, 15)) hx hb hr.2.1.1 hr.1 rx_W_D hS i 4 v 0 he rfl hw rfl hxn (rx_dec1 hk (fun _ => rfl) rfl) (fun H1 locs1 hP1 hD1 hS1 => ?_)
  refine k H1 locs1 cells slots lc (rx_rel_set hr rfl (fun a ha => ⟨rfl, rfl, rx_u_ne ha⟩) ?_ hP1 hbz hS hS1) hS1 hl rfl hc hs
  refine Eq.trans ?_ (rx_E_arr (h := rx_sr h (i + 1) x.toNatClampNeg (some (v + 1))) (t := 17) (n := n) hi (by decide)).symm
  rw [rx_av_q (by decide)]
  congr 7
  funext a
  show _ = (rx_u h.2.2.2 (i + 1) x.toNatClampNeg (some (v + 1)) (i + 1) a).map (rx_ad b base)
  rw [rx_u_eq]
  unfold va_up
  dsimp only
  split <;> rfl
theorem rx_s_aastoreN17 {j pc : Nat} {ls st : List Value} {h : rx_H} {i n : Nat} {x : Int32} (C : rx_at j p R s m args meth c base c0 nL) (hP : rx_P j pc = some (.aastore)) (hi : h.1[i + 1]? = some (17, n)) (hxn : vp_in x n) (k : rx_K p l e R s m args below meth c Q D dA b base c0 s0 nL (pc + 1, ls, st, rx_sr h (i + 1) x.toNatClampNeg none)) : rx_K p l e R s m args below meth c Q D dA b base c0 s0 nL (pc, ls, .null :: .int x :: .ref (i + 1) :: st, h) := by
  obtain ⟨hx, hb, hml, hown, hts, hfr, hlo, hin, hz, hbz⟩ := C
  have hk := (rx_P_ok hP).1
  intro H locs cells slots lc hr hS hl hn hc hs
  subst hn
  have he := rx_W_get (b := b) (base := base) (dA := dA) (rx_lt_len hi)
  rw [rx_E_arr hi (by decide), rx_av_q (by decide)] at he
  refine va_astqN hx hb hr.2.1.1 hr.1 rx_W_D hS i 4 he rfl hxn (rx_dec1 hk (fun _ => rfl) rfl) (fun H1 locs1 hP1 hD1 hS1 => ?_)
  refine k H1 locs1 cells slots lc (rx_rel_set hr rfl (fun a ha => ⟨rfl, rfl, rx_u_ne ha⟩) ?_ hP1 hbz hS hS1) hS1 hl rfl hc hs
  refine Eq.trans ?_ (rx_E_arr (h := rx_sr h (i + 1) x.toNatClampNeg none) (t := 17) (n := n) hi (by decide)).symm
  rw [rx_av_q (by decide)]
  congr 7
  funext a
  show _ = (rx_u h.2.2.2 (i + 1) x.toNatClampNeg none (i + 1) a).map (rx_ad b base)
  rw [rx_u_eq]
  unfold va_up
  dsimp only
  split <;> rfl
theorem rx_s_aastore18 {j pc : Nat} {ls st : List Value} {h : rx_H} {i n v nv : Nat} {x : Int32} (C : rx_at j p R s m args meth c base c0 nL) (hP : rx_P j pc = some (.aastore)) (hi : h.1[i + 1]? = some (18, n)) (hv : h.1[v + 1]? = some (7, nv)) (hxn : vp_in x n) (k : rx_K p l e R s m args below meth c Q D dA b base c0 s0 nL (pc + 1, ls, st, rx_sr h (i + 1) x.toNatClampNeg (some (v + 1)))) : rx_K p l e R s m args below meth c Q D dA b base c0 s0 nL (pc, ls, .ref (v + 1) :: .int x :: .ref (i + 1) :: st, h) := by
  obtain ⟨hx, hb, hml, hown, hts, hfr, hlo, hin, hz, hbz⟩ := C
  have hk := (rx_P_ok hP).1
  intro H locs cells slots lc hr hS hl hn hc hs
  subst hn
  have he := rx_W_get (b := b) (base := base) (dA := dA) (rx_lt_len hi)
  rw [rx_E_arr hi (by decide), rx_av_q (by decide)] at he
  have hw := rx_W_get (b := b) (base := base) (dA := dA) (rx_lt_len hv)
  rw [rx_E_obj hv (by decide)] at hw
  refine va_astq (r := ("CartFloor$Shelf", rx_T7, 2)) hx hb hr.2.1.1 hr.1 rx_W_D hS i 5 v 7 he rfl hw rfl hxn (rx_dec1 hk (fun _ => rfl) rfl) (fun H1 locs1 hP1 hD1 hS1 => ?_)
  refine k H1 locs1 cells slots lc (rx_rel_set hr rfl (fun a ha => ⟨rfl, rfl, rx_u_ne ha⟩) ?_ hP1 hbz hS hS1) hS1 hl rfl hc hs
  refine Eq.trans ?_ (rx_E_arr (h := rx_sr h (i + 1) x.toNatClampNeg (some (v + 1))) (t := 18) (n := n) hi (by decide)).symm
  rw [rx_av_q (by decide)]
  congr 7
  funext a
  show _ = (rx_u h.2.2.2 (i + 1) x.toNatClampNeg (some (v + 1)) (i + 1) a).map (rx_ad b base)
  rw [rx_u_eq]
  unfold va_up
  dsimp only
  split <;> rfl
theorem rx_s_aastoreN18 {j pc : Nat} {ls st : List Value} {h : rx_H} {i n : Nat} {x : Int32} (C : rx_at j p R s m args meth c base c0 nL) (hP : rx_P j pc = some (.aastore)) (hi : h.1[i + 1]? = some (18, n)) (hxn : vp_in x n) (k : rx_K p l e R s m args below meth c Q D dA b base c0 s0 nL (pc + 1, ls, st, rx_sr h (i + 1) x.toNatClampNeg none)) : rx_K p l e R s m args below meth c Q D dA b base c0 s0 nL (pc, ls, .null :: .int x :: .ref (i + 1) :: st, h) := by
  obtain ⟨hx, hb, hml, hown, hts, hfr, hlo, hin, hz, hbz⟩ := C
  have hk := (rx_P_ok hP).1
  intro H locs cells slots lc hr hS hl hn hc hs
  subst hn
  have he := rx_W_get (b := b) (base := base) (dA := dA) (rx_lt_len hi)
  rw [rx_E_arr hi (by decide), rx_av_q (by decide)] at he
  refine va_astqN hx hb hr.2.1.1 hr.1 rx_W_D hS i 5 he rfl hxn (rx_dec1 hk (fun _ => rfl) rfl) (fun H1 locs1 hP1 hD1 hS1 => ?_)
  refine k H1 locs1 cells slots lc (rx_rel_set hr rfl (fun a ha => ⟨rfl, rfl, rx_u_ne ha⟩) ?_ hP1 hbz hS hS1) hS1 hl rfl hc hs
  refine Eq.trans ?_ (rx_E_arr (h := rx_sr h (i + 1) x.toNatClampNeg none) (t := 18) (n := n) hi (by decide)).symm
  rw [rx_av_q (by decide)]
  congr 7
  funext a
  show _ = (rx_u h.2.2.2 (i + 1) x.toNatClampNeg none (i + 1) a).map (rx_ad b base)
  rw [rx_u_eq]
  unfold va_up
  dsimp only
  split <;> rfl
end RXA
