/-! The law's start, out of a run of the small machine. -/
/-- the heap at the law's start: the script alone -/
def rx_h0 (L : Nat) (xs : Nat → Int32) : rx_H := ([(14, L)], (fun i => if i = 0 then xs else fun _ => 0), (fun _ _ => 0), (fun _ _ => none))
/-- the run of the law on a script ends with 1, within the room -/
def rx_Goal (N : Nat) : Prop := ∀ (L : Nat) (xs : Nat → Int32), L ≤ N → ∃ (n : Nat) (h2 : rx_H), rx_run n 0 0 [.ref 0, rx_no, rx_no, rx_no] [] (rx_h0 L xs) = some (some (.int 1), h2) ∧ h2.1.length ≤ 600001 ∧ rx_us h2 ≤ 7302250 + L
theorem rx_arr_prim {args : Array Value} {s : State} {ty : FieldType} (h : (Cond.arrayClass ty).before args s = true) (hp : ∀ C, ty ≠ .object C) : ∃ cA, ArrOfT s cA ty ∧ va_RA s cA ty := by
  obtain ⟨cA, k, comp, h1, h2, h3⟩ := Cond.arrayClass_spec h
  refine ⟨cA, fun n z => ⟨fun q h => (by cases h), k, h2, comp, h3⟩, ?_⟩
  cases ty <;> first | exact h1 | exact absurd rfl (hp _)
theorem rx_arr_obj {s : State} {C : String} (h : va_AO C s) : ∃ cA, ArrOfT s cA (.object C) ∧ va_RA s cA (.object C) := by
  obtain ⟨comp, cA, k, h1, -, h3, h4, h5⟩ := Cond.arrayOver_spec h
  exact ⟨cA, fun n z => ⟨fun q h => (by cases h), k, h3, comp, h4⟩, k, comp, h3, h4, h1, h5⟩
theorem rx_env_start {args : Array Value} {s : State} (hts : ∀ w ∈ rx_tb, w.before args s = true) : ∃ (D : va_G) (dA : Nat → ClassId), rx_env D dA s := by
  have hall : ∀ (k : Nat) (q : vw_C), rx_cls[k]? = some q → ∃ (cC : ClassId) (iS : Nat → Nat), u_Kn s q.1 q.2.1 q.2.2 cC iS := by
    intro k q hq
    obtain ⟨C, T, N⟩ := q
    exact u_known hts (rx_cls_ok hq).1 (hts _ (rx_news_in _ (List.mem_map.mpr ⟨_, List.mem_of_getElem? hq, rfl⟩)))
  have hone : ∀ k : Nat, ∃ (z : ClassId × (Nat → Nat)), ∀ q : vw_C, rx_cls[k]? = some q → u_Kn s q.1 q.2.1 q.2.2 z.1 z.2 := by
    intro k
    cases hk : rx_cls[k]? with
    | none => exact ⟨(0, fun _ => 0), fun q h => by cases h⟩
    | some q =>
      obtain ⟨cC, iS, h⟩ := hall k q hk
      exact ⟨(cC, iS), fun q' h' => by cases h'; exact h⟩
  have ao1 : va_AO "CartFloor$Cart" s := va_AO.of (hts _ (rx_arr_in _ (by decide +kernel)))
  have ao2 : va_AO "CartFloor$Shelf" s := va_AO.of (hts _ (rx_arr_in _ (by decide +kernel)))
  obtain ⟨a13, p13⟩ := rx_arr_prim (hts (.arrayClass .byte) (rx_arr_in _ (by decide +kernel))) (fun C h => by cases h)
  obtain ⟨a14, p14⟩ := rx_arr_prim (hts (.arrayClass .int) (rx_arr_in _ (by decide +kernel))) (fun C h => by cases h)
  obtain ⟨a15, p15⟩ := rx_arr_prim (hts (.arrayClass .long) (rx_arr_in _ (by decide +kernel))) (fun C h => by cases h)
  obtain ⟨a16, p16⟩ := rx_arr_prim (hts (.arrayClass .boolean) (rx_arr_in _ (by decide +kernel))) (fun C h => by cases h)
  obtain ⟨a17, p17⟩ := rx_arr_obj ao1
  obtain ⟨a18, p18⟩ := rx_arr_obj ao2
  refine ⟨(fun k => (Classical.choose (hone k)).1, fun k => (Classical.choose (hone k)).2), fun t => if t = 13 then a13 else if t = 14 then a14 else if t = 15 then a15 else if t = 16 then a16 else if t = 17 then a17 else a18, ⟨fun k q hq => Classical.choose_spec (hone k) q hq, fun k q hq => ?_⟩, fun w hw => ?_, ao1, ao2⟩
  · match k, hq with
    | 0, hq => cases hq; exact p13
    | 1, hq => cases hq; exact p14
    | 2, hq => cases hq; exact p15
    | 3, hq => cases hq; exact p16
    | 4, hq => cases hq; exact p17
    | 5, hq => cases hq; exact p18
    | k + 6, hq => simp [rx_ay] at hq
  · have h1 := hts w (rx_nml_in w hw)
    obtain ⟨q, -, rfl⟩ := List.mem_map.mp hw
    exact va_Nw.of rfl h1
/-- the law's body, out of the small machine's run -/
theorem rx_start {N : Nat} (hG : rx_Goal N) {p : Program} {e : Env} {s : State} {m : MethodId} {below : List Frame} {meth : Method} {c : Code} (l : Launch) {b L : Nat} {xs : Nat → Int32} (hL : L ≤ N) (C0 : lw_At p s m meth c b L xs) : W p l e room_1 s m #[Value.ref b] below meth c s.heap [] 0 0 (lw_Z below #[Value.ref b] s) (entryFrame m ([Value.ref b] : List Value).toArray 4) := by
  obtain ⟨hx, hb, hr, hml, hown, hts0, hX, hbl, hlocks, hgv⟩ := C0
  have hts : ∀ w ∈ rx_tb, w.before #[Value.ref b] s = true := fun w hw => hts0 w (List.mem_filter.mp hw).1
  obtain ⟨D, dA, henv⟩ := rx_env_start hts
  obtain ⟨n, h2, hrun, hc2, hs2⟩ := hG L xs hL
  have hus : rx_us (rx_h0 L xs) = L := by unfold rx_us rx_h0; simp
  have hrel : rx_rel D dA b s.heap.size s (rx_h0 L xs) s.heap := by
    refine ⟨fun k q hq => ?_, henv, hbl, Nat.le_refl _, L, rfl, hX⟩
    obtain ⟨hlt, -⟩ := rx_W_inv hq
    exact absurd hlt (by show ¬ k + 1 < 1; omega)
  have hC : rx_at 0 p room_1 s m #[Value.ref b] meth c s.heap.size 1 4 := ⟨hx, hb, hml, hown, hts, by decide +kernel, by decide +kernel, fun h => (by cases h), rfl, Nat.le_refl _⟩
  have hend : rx_end 0 p l e room_1 s m #[Value.ref b] below meth c (lw_Z below #[Value.ref b] s) D dA b s.heap.size 1 L (some (.int 1)) h2 := by
    intro pc i st hP hisr H locs cells slots lc hr2 hS hc hs
    have hk := (rx_P_ok hP).1
    rcases hisr with ⟨rfl, v, rfl, hv, -⟩ | ⟨-, v, -, hv, -⟩ | ⟨-, v, -, hv, hv2, -⟩ | ⟨-, -, hv, -⟩
    · cases hv
      refine va_forget (fun q hq => hS.2.2 q hq) ?_
      refine W.widen (k := 600000) (n := 7302250) (by omega) (by omega) ?_
      exact lw_ret hx hb hr hlocks (rx_dec1 hk (fun _ => rfl) rfl)
    · cases hv
    · cases hv; rcases hv2 with h | ⟨a, h⟩ <;> cases h
    · cases hv
  have hK := rx_sound n 0 0 _ [] _ _ h2 hrun p e room_1 s m #[Value.ref b] below meth c (lw_Z below #[Value.ref b] s) 1 L 4 hC ⟨by show _ ≤ 600000 + 1; omega, by show _ ≤ 7302250 + L; omega⟩ hend
  rw [lg_entry_eq]
  exact hK s.heap [] 0 0 _ hrel va_S.rf (rx_entry (ad := rx_ad b s.heap.size) (as := [.ref 0]) (n := 4) (by decide)) rfl rfl (by rw [hus]; omega)
