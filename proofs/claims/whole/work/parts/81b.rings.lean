/-! few: the rings of those that wait. -/
/-- the ring (and 1) of a state that waits, or of a ring's head -/
def cf_Rk (r : Nat → Nat) (j : Nat) : Nat := if j < 9261 then r j else j - 9260
def cf_Rn (hi : Nat → Nat → Int32) (r tt : Nat → Nat) (K : Nat) (nx pr : Nat → Nat) : Prop := ∀ j, j < 9269 → 0 < cf_Rk r j → hi 141 j = nI (nx j) ∧ hi 142 j = nI (pr j) ∧ nx j < 9269 ∧ pr j < 9269 ∧ cf_Rk r (nx j) = cf_Rk r j ∧ cf_Rk r (pr j) = cf_Rk r j ∧ pr (nx j) = j ∧ nx (pr j) = j ∧ (j < 9261 → tt j < K) ∧ (j < 9261 → pr j < 9261 → tt j < tt (pr j))
def cf_Rg (hi : Nat → Nat → Int32) (r tt : Nat → Nat) (K : Nat) : Prop := ∃ nx pr, cf_Rn hi r tt K nx pr
theorem cf_Rk_s {r : Nat → Nat} {j : Nat} (h : j < 9261) : cf_Rk r j = r j := if_pos h
theorem cf_Rk_h {r : Nat → Nat} {j : Nat} (h : ¬ j < 9261) : cf_Rk r j = j - 9260 := if_neg h
theorem cf_Rk_fu {r : Nat → Nat} {x c j : Nat} (hx : x < 9261) : cf_Rk (cf_fu r x c) j = if j = x then c else cf_Rk r j := by
  unfold cf_Rk
  by_cases q : j = x
  · subst q; rw [if_pos hx, if_pos rfl, cf_fu_eq]
  · rw [if_neg q, cf_fu_ne q]
/-- a ring with a state in it isn't empty -/
theorem cf_Rn_ne {hi : Nat → Nat → Int32} {r tt : Nat → Nat} {K : Nat} {nx pr : Nat → Nat} (R : cf_Rn hi r tt K nx pr) : ∀ d j, K - tt j ≤ d → j < 9261 → 0 < r j → r j ≤ 8 → ¬ nx (9260 + r j) = 9260 + r j
  | 0, j, hd, hj, h0, h8 => by
    have := (R j (by omega) (by rw [cf_Rk_s hj]; exact h0)).2.2.2.2.2.2.2.2.1 hj
    omega
  | d + 1, j, hd, hj, h0, h8 => by
    obtain ⟨_, _, _, a2, _, a4, _, a6, a7, a8⟩ := R j (by omega) (by rw [cf_Rk_s hj]; exact h0)
    rw [cf_Rk_s hj] at a4
    by_cases q : pr j < 9261
    · rw [cf_Rk_s q] at a4
      have := a8 hj q
      have := a7 hj
      have ih := cf_Rn_ne R d (pr j) (by omega) q (by omega) (by omega)
      rw [a4] at ih; exact ih
    · rw [cf_Rk_h q] at a4
      rw [show 9260 + r j = pr j by omega, a6]; omega
section RXE
variable {L : Nat} {hi : Nat → Nat → Int32} {hl : Nat → Nat → Int64} {v : Nat → Nat → Option Nat}
variable {RI : Int32 → (Nat → Nat → Int32) → (Nat → Nat → Int64) → (Nat → Nat → Option Nat) → Prop}
variable {RV : (Nat → Nat → Int32) → (Nat → Nat → Int64) → (Nat → Nat → Option Nat) → Prop}
theorem c134 {r tt : Nat → Nat} {K x k : Nat} (G : cf_Rg hi r tt K) (hx : x < 9261) (h0 : r x = 0) (hk : k < 2 ^ 31) (kk : ∀ hi2, (∀ a b, ¬ a = 141 → ¬ a = 142 → hi2 a b = hi a b) → cf_Rg hi2 (cf_fu r x (k % 8 + 1)) (cf_fu tt x K) (K + 1) → RV hi2 hl v) : rx_CV L rx_tr 134 [.ref 134, .int (nI x), .int (nI k)] hi hl v RV := by
  obtain ⟨nx, pr, R⟩ := G
  have eh : (9261 : Int32) + (nI k - nI k / 8 * 8) = nI (9261 + k % 8) := by
    rw [show (8 : Int32) = nI 8 from rfl, cf_nmod hk (by decide), show (9261 : Int32) = nI 9261 from rfl, nI_add]
  have h8 : k % 8 < 8 := Nat.mod_lt _ (by decide)
  have kh : cf_Rk r (9261 + k % 8) = k % 8 + 1 := by rw [cf_Rk_h (by omega)]; omega
  generalize hh : 9261 + k % 8 = h at *
  obtain ⟨a1, a2, a3, a4, a5, a6, a7, a8, a9, a10⟩ := R h (by omega) (by omega)
  have kx : cf_Rk r x = 0 := by rw [cf_Rk_s hx]; exact h0
  have hbx : ¬ nx h = x := fun q => by rw [q, kx] at a5; omega
  have hxh : ¬ x = h := by omega
  refine w134_enter ⟨h, eh, by omega, x, rfl, by omega, x, rfl, by omega, h, eh, by omega, nx h, ?_, a3, h, eh, by omega, ?_⟩
  · rw [cf_ru_ne (by omega), cf_ru_ne (by omega)]; exact a1
  · refine c_retV (kk _ (fun a b q1 q2 => by rw [cf_ru_ne (by omega), cf_ru_ne (by omega), cf_ru_ne (by omega), cf_ru_ne (by omega)]) ?_)
    rw [eh]
    refine ⟨cf_fu (cf_fu nx x (nx h)) h x, cf_fu (cf_fu pr x h) (nx h) x, fun j hj hr => ?_⟩
    rw [cf_Rk_fu hx] at hr
    have v1 : rx_u (rx_u (rx_u (rx_u hi 141 x (hi 141 h)) 142 x (nI h)) 142 (nx h) (nI x)) 141 h (nI x) 141 j = if j = h then nI x else if j = x then hi 141 h else hi 141 j := by
      by_cases q : j = h
      · rw [if_pos q, q, cf_ru_eq]
      · rw [if_neg q, cf_ru_ne (by omega), cf_ru_ne (by omega), cf_ru_ne (by omega)]
        by_cases q2 : j = x
        · rw [if_pos q2, q2, cf_ru_eq]
        · rw [if_neg q2, cf_ru_ne (by omega)]
    have v2 : rx_u (rx_u (rx_u (rx_u hi 141 x (hi 141 h)) 142 x (nI h)) 142 (nx h) (nI x)) 141 h (nI x) 142 j = if j = nx h then nI x else if j = x then nI h else hi 142 j := by
      rw [cf_ru_ne (by omega)]
      by_cases q : j = nx h
      · rw [if_pos q, q, cf_ru_eq]
      · rw [if_neg q, cf_ru_ne (by omega)]
        by_cases q2 : j = x
        · rw [if_pos q2, q2, cf_ru_eq]
        · rw [if_neg q2, cf_ru_ne (by omega), cf_ru_ne (by omega)]
    rw [v1, v2]
    by_cases q : j = x
    · subst q
      have n1 : cf_fu (cf_fu nx j (nx h)) h j j = nx h := by rw [cf_fu_ne hxh, cf_fu_eq]
      have n2 : cf_fu (cf_fu pr j h) (nx h) j j = h := by rw [cf_fu_ne (fun z => hbx z.symm), cf_fu_eq]
      rw [n1, n2, cf_Rk_fu hx, cf_Rk_fu hx, cf_Rk_fu hx, if_neg hxh, if_pos rfl, if_neg (fun z => hbx z.symm), if_pos rfl, if_neg hbx, if_pos rfl, if_neg (fun z => hxh z.symm)]
      refine ⟨a1, rfl, a3, by omega, by omega, by omega, cf_fu_eq, cf_fu_eq, fun _ => by rw [cf_fu_eq]; omega, fun _ z => by omega⟩
    · rw [if_neg q] at hr
      obtain ⟨b1, b2, b3, b4, b5, b6, b7, b8, b9, b10⟩ := R j hj hr
      have njx : ¬ nx j = x := fun z => by rw [z, kx] at b5; omega
      have pjx : ¬ pr j = x := fun z => by rw [z, kx] at b6; omega
      rw [if_neg q, if_neg q]
      have n1 : cf_fu (cf_fu nx x (nx h)) h x j = if j = h then x else nx j := by
        unfold cf_fu
        rw [if_neg q]
      have n2 : cf_fu (cf_fu pr x h) (nx h) x j = if j = nx h then x else pr j := by
        unfold cf_fu
        rw [if_neg q]
      rw [n1, n2, cf_Rk_fu hx, cf_Rk_fu hx, cf_Rk_fu hx, if_neg (c := j = x) q]
      have e1 : ¬ j = h → ¬ nx j = nx h := fun z w => z (by rw [← b7, w, a7])
      have e2 : ¬ j = nx h → ¬ pr j = h := fun z w => z (by rw [← b8, w])
      refine ⟨?_, ?_, ?_, ?_, ?_, ?_, ?_, ?_, fun z => ?_, fun z1 z2 => ?_⟩
      · by_cases w : j = h
        · rw [if_pos w, if_pos w]
        · rw [if_neg w, if_neg w]; exact b1
      · by_cases w : j = nx h
        · rw [if_pos w, if_pos w]
        · rw [if_neg w, if_neg w]; exact b2
      · split <;> omega
      · split <;> omega
      · by_cases w : j = h
        · rw [if_pos w, if_pos rfl, w, kh]
        · rw [if_neg w, if_neg njx]; exact b5
      · by_cases w : j = nx h
        · rw [if_pos w, if_pos rfl, w, a5, kh]
        · rw [if_neg w, if_neg pjx]; exact b6
      · by_cases w : j = h
        · rw [if_pos w]
          unfold cf_fu
          rw [if_neg (fun z => hbx z.symm), if_pos rfl]; exact w.symm
        · rw [if_neg w]
          unfold cf_fu
          rw [if_neg (e1 w), if_neg njx]; exact b7
      · by_cases w : j = nx h
        · rw [if_pos w]
          unfold cf_fu
          rw [if_neg hxh, if_pos rfl]; exact w.symm
        · rw [if_neg w]
          unfold cf_fu
          rw [if_neg (e2 w), if_neg pjx]; exact b8
      · rw [cf_fu_ne q]; have := b9 z; omega
      · rw [cf_fu_ne q]
        by_cases w : j = nx h
        · rw [if_pos w, cf_fu_eq]; exact b9 z1
        · rw [if_neg w] at z2 ⊢
          rw [cf_fu_ne pjx]; exact b10 z1 z2
theorem c135 {r tt : Nat → Nat} {K x : Nat} (G : cf_Rg hi r tt K) (hx : x < 9261) (h0 : 0 < r x) (kk : ∀ hi2, (∀ a b, ¬ a = 141 → ¬ a = 142 → hi2 a b = hi a b) → cf_Rg hi2 (cf_fu r x 0) tt K → RV hi2 hl v) : rx_CV L rx_tr 135 [.ref 134, .int (nI x)] hi hl v RV := by
  obtain ⟨nx, pr, R⟩ := G
  obtain ⟨a1, a2, a3, a4, a5, a6, a7, a8, a9, a10⟩ := R x (by omega) (by rw [cf_Rk_s hx]; exact h0)
  have hax : ¬ pr x = x := fun q => by have := a10 hx (by rw [q]; exact hx); rw [q] at this; omega
  have hbx : ¬ nx x = x := fun q => hax (by rw [q] at a7; exact a7)
  have w1 : ∀ y, rx_u hi 141 (pr x) y 141 x = hi 141 x := fun y => cf_ru_ne (by omega)
  refine w135_leave ⟨x, rfl, by omega, x, rfl, by omega, pr x, a2, a4, x, rfl, by omega, x, rfl, by omega, nx x, by rw [w1]; exact a1, a3, ?_⟩
  refine c_retV (kk _ (fun a b q1 q2 => by rw [cf_ru_ne (by omega), cf_ru_ne (by omega)]) ?_)
  refine ⟨cf_fu nx (pr x) (nx x), cf_fu pr (nx x) (pr x), fun j hj hr => ?_⟩
  rw [cf_Rk_fu hx] at hr
  by_cases q : j = x
  · rw [if_pos q] at hr; omega
  rw [if_neg q] at hr
  obtain ⟨b1, b2, b3, b4, b5, b6, b7, b8, b9, b10⟩ := R j hj hr
  have v1 : rx_u (rx_u hi 141 (pr x) (hi 141 x)) 142 (nx x) (rx_u hi 141 (pr x) (hi 141 x) 142 x) 141 j = if j = pr x then hi 141 x else hi 141 j := by
    rw [cf_ru_ne (by omega)]
    by_cases w : j = pr x
    · rw [if_pos w, w, cf_ru_eq]
    · rw [if_neg w, cf_ru_ne (by omega)]
  have v2 : rx_u (rx_u hi 141 (pr x) (hi 141 x)) 142 (nx x) (rx_u hi 141 (pr x) (hi 141 x) 142 x) 142 j = if j = nx x then hi 142 x else hi 142 j := by
    by_cases w : j = nx x
    · rw [if_pos w, w, cf_ru_eq, cf_ru_ne (by omega)]
    · rw [if_neg w, cf_ru_ne (by omega), cf_ru_ne (by omega)]
  have e1 : ¬ j = pr x → ¬ nx j = x := fun z w => z (by rw [← b7, w])
  have e2 : ¬ j = nx x → ¬ pr j = x := fun z w => z (by rw [← b8, w])
  have e3 : ¬ j = x → ¬ nx j = nx x := fun z w => z (by rw [← b7, w, a7])
  have e4 : ¬ j = x → ¬ pr j = pr x := fun z w => z (by rw [← b8, w, a8])
  rw [v1, v2, cf_Rk_fu hx, cf_Rk_fu hx, cf_Rk_fu hx, if_neg (c := j = x) q]
  unfold cf_fu
  refine ⟨?_, ?_, ?_, ?_, ?_, ?_, ?_, ?_, b9, fun z1 z2 => ?_⟩
  · by_cases w : j = pr x
    · rw [if_pos w, if_pos w]; exact a1
    · rw [if_neg w, if_neg w]; exact b1
  · by_cases w : j = nx x
    · rw [if_pos w, if_pos w]; exact a2
    · rw [if_neg w, if_neg w]; exact b2
  · split <;> omega
  · split <;> omega
  · by_cases w : j = pr x
    · rw [if_pos w, if_neg hbx, w, a5, a6]
    · rw [if_neg w, if_neg (e1 w)]; exact b5
  · by_cases w : j = nx x
    · rw [if_pos w, if_neg hax, w, a5, a6]
    · rw [if_neg w, if_neg (e2 w)]; exact b6
  · by_cases w : j = pr x
    · rw [if_pos w, if_pos rfl]; exact w.symm
    · rw [if_neg w, if_neg (e3 q)]; exact b7
  · by_cases w : j = nx x
    · rw [if_pos w, if_pos rfl]; exact w.symm
    · rw [if_neg w, if_neg (e4 q)]; exact b8
  · by_cases w : j = nx x
    · rw [if_pos w] at z2 ⊢
      have h1 := b10 z1 (by rw [w, a7]; exact hx)
      rw [w, a7] at h1
      rw [w]
      have h2 := a10 hx z2
      omega
    · rw [if_neg w] at z2 ⊢; exact b10 z1 z2
end RXE
