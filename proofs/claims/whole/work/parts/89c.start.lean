/-! The law's start once more, out of a run whose references of cells that aren't made yet are given. -/
def rx_hG (r0 : Nat → Nat → Option Nat) (L : Nat) (xs : Nat → Int32) : rx_H := ([(14, L)], (fun i => if i = 0 then xs else fun _ => 0), (fun _ _ => 0), r0)
def rx_GoalR (r0 : Nat → Nat → Option Nat) (N : Nat) : Prop := ∀ (L : Nat) (xs : Nat → Int32), L ≤ N → ∃ (n : Nat) (h2 : rx_H), rx_run n 0 0 [.ref 0, rx_no, rx_no, rx_no] [] (rx_hG r0 L xs) = some (some (.int 1), h2) ∧ h2.1.length ≤ 600001 ∧ rx_us h2 ≤ 7302250 + L
/-- the law's body, out of the small machine's run -/
theorem rx_startR {N : Nat} {r0 : Nat → Nat → Option Nat} (hG : rx_GoalR r0 N) {p : Program} {e : Env} {s : State} {m : MethodId} {below : List Frame} {meth : Method} {c : Code} (l : Launch) {b L : Nat} {xs : Nat → Int32} (hL : L ≤ N) (C0 : lw_At p s m meth c b L xs) : W p l e room_1 s m #[Value.ref b] below meth c s.heap [] 0 0 (lw_Z below #[Value.ref b] s) (entryFrame m ([Value.ref b] : List Value).toArray 4) := by
  obtain ⟨hx, hb, hr, hml, hown, hts0, hX, hbl, hlocks, hgv⟩ := C0
  have hts : ∀ w ∈ rx_tb, w.before #[Value.ref b] s = true := fun w hw => hts0 w (List.mem_filter.mp hw).1
  obtain ⟨D, dA, henv⟩ := rx_env_start hts
  obtain ⟨n, h2, hrun, hc2, hs2⟩ := hG L xs hL
  have hus : rx_us (rx_hG r0 L xs) = L := by unfold rx_us rx_hG; simp
  have hrel : rx_rel D dA b s.heap.size s (rx_hG r0 L xs) s.heap := by
    refine ⟨fun k q hq => ?_, henv, hbl, Nat.le_refl _, L, rfl, hX⟩
    obtain ⟨hlt, -⟩ := rx_W_inv hq
    exact absurd hlt (by show ¬ k + 1 < 1; omega)
  have hC : rx_at 0 p room_1 s m #[Value.ref b] meth c s.heap.size 1 4 := ⟨hx, hb, hml, hown, hts, by decide +kernel, by decide +kernel, fun h => (by cases h), rfl, Nat.le_refl _⟩
  have hend : rx_end 0 p l e room_1 s m #[Value.ref b] below meth c (lw_Z below #[Value.ref b] s) D dA b s.heap.size 1 L (some (.int 1)) h2 := by
    intro pc i st hP hisr H locs cells slots lc hr2 hS hc hs
    have hk := (rx_P_ok hP).1
    rcases hisr with ⟨rfl, v, rfl, hv, -⟩ | ⟨-, v, -, hv, -⟩ | ⟨-, v, -, hv, hv2, -⟩ | ⟨-, -, hv, -⟩
    · cases hv
      refine va_forget (fun q hq => hS.2.2 q hq) ?_
      refine W.widen (k := 600000) (n := 7302250) (by omega) (by omega) ?_
      exact lw_ret hx hb hr hlocks (rx_dec1 hk (fun _ => rfl) rfl)
    · cases hv
    · cases hv; rcases hv2 with h | ⟨a, h⟩ <;> cases h
    · cases hv
  have hK := rx_sound n 0 0 _ [] _ _ h2 hrun p e room_1 s m #[Value.ref b] below meth c (lw_Z below #[Value.ref b] s) 1 L 4 hC ⟨by show _ ≤ 600000 + 1; omega, by show _ ≤ 7302250 + L; omega⟩ hend
  rw [lg_entry_eq]
  exact hK s.heap [] 0 0 _ hrel va_S.rf (rx_entry (ad := rx_ad b s.heap.size) (as := [.ref 0]) (n := 4) (by decide)) rfl rfl (by rw [hus]; omega)
theorem rx_goalR : rx_GoalR rx_fixd 3074 := by
  intro L xs hL
  obtain ⟨n, r, h2, e, e1, e2, e3⟩ := lw_run (xs := xs) hL
  subst e1
  exact ⟨n, h2, e, e2, e3⟩
