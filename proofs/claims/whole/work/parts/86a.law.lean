/-! The law: each call of both, and the loop. -/
def lw_F (L : Nat) (r : Option Value) (h2 : rx_H) : Prop := r = some (.int 1) ∧ h2.1.length ≤ 600001 ∧ rx_us h2 ≤ 7302250 + L
section RXL
variable {L : Nat} {xs : Nat → Int32} {i : Nat} {t : List (Nat × Nat)} {hi : Nat → Nat → Int32} {hl : Nat → Nat → Int64} {v : Nat → Nat → Option Nat}
set_option maxRecDepth 100000 in
theorem lw_lay (hL : L ≤ 3074) (hi6 : i + 6 ≤ L) (R : cf_Rel t hi hl v) (E : ∀ b, hi 0 b = xs b) (go : ∀ t hi hl v, cf_Rel t hi hl v → (∀ b, hi 0 b = xs b) → rx_aw 0 1081 [.ref 0, .ref 1, .ref 90, .int (nI i)] [] (rx_hp L t hi hl v) (lw_F L)) : rx_aw 0 180 [.ref 0, .ref 1, .ref 90, .int (nI i)] [] (rx_hp L t hi hl v) (lw_F L) := by
  obtain ⟨S, ls, R⟩ := R
  refine rx_aw_s 5 (pc := 180) rfl ?_
  refine rx_w_iald (pc := 185) (n := L) rfl rfl rfl (by omega) ⟨i + 1, nI_add i 1, by omega, ?_⟩
  refine rx_aw_s 4 (pc := 186) rfl ?_
  refine rx_w_iald (pc := 190) (n := L) rfl rfl rfl (by omega) ⟨i + 2, nI_add i 2, by omega, ?_⟩
  refine rx_aw_s 4 (pc := 191) rfl ?_
  refine rx_w_iald (pc := 195) (n := L) rfl rfl rfl (by omega) ⟨i + 3, nI_add i 3, by omega, ?_⟩
  show rx_aw 0 196 [.ref 0, .ref 1, .ref 90, .int (nI i)] [.int (hi 0 (i + 3)), .int (hi 0 (i + 2)), .int (hi 0 (i + 1)), .ref 1] (rx_hp L t hi hl v) (lw_F L)
  rw [E (i + 1), E (i + 2), E (i + 3)]
  refine rx_w_callI (j := 25) (pc := 196) rfl rfl rfl rfl rfl ?_
  refine rx_aw.mono (cf_pr_0 (cf_pr_lay (L := L) (t := t) (xs (i + 1)) (xs (i + 2)) (xs (i + 3)) S ls hi hl v R)) (fun r h2 k => ?_)
  obtain ⟨z, rfl, hi2, hl2, v2, rfl, k, E2⟩ := k
  refine ⟨z, rfl, ?_⟩
  refine rx_aw_s 5 (pc := 199) rfl ?_
  refine rx_w_iald (pc := 204) (n := L) rfl rfl rfl (by omega) ⟨i + 1, nI_add i 1, by omega, ?_⟩
  refine rx_aw_s 4 (pc := 205) rfl ?_
  refine rx_w_iald (pc := 209) (n := L) rfl rfl rfl (by omega) ⟨i + 2, nI_add i 2, by omega, ?_⟩
  refine rx_aw_s 4 (pc := 210) rfl ?_
  refine rx_w_iald (pc := 214) (n := L) rfl rfl rfl (by omega) ⟨i + 3, nI_add i 3, by omega, ?_⟩
  show rx_aw 0 215 [.ref 0, .ref 1, .ref 90, .int (nI i)] [.int (hi2 0 (i + 3)), .int (hi2 0 (i + 2)), .int (hi2 0 (i + 1)), .ref 90, .int z] (rx_hp L t hi2 hl2 v2) (lw_F L)
  rw [E2 (i + 1), E (i + 1), E2 (i + 2), E (i + 2), E2 (i + 3), E (i + 3)]
  refine rx_w_callI (j := 204) (pc := 215) rfl rfl rfl rfl rfl ?_
  refine rx_aw.mono (cf_pr_0 k) (fun r h2 k => ?_)
  obtain ⟨z2, rfl, hi3, hl3, v3, rfl, ⟨ez, R3⟩, E3⟩ := k
  refine ⟨z2, rfl, ?_⟩
  refine rx_aw_s 1 (pc := 218) rfl ?_
  exact rx_w_if (c := z = z2) ⟨fun _ => go t hi3 hl3 v3 R3 (fun b => (E3 b).trans ((E2 b).trans (E b))), fun q => absurd ez.symm q⟩
set_option maxRecDepth 100000 in
theorem lw_row (hL : L ≤ 3074) (hi6 : i + 6 ≤ L) (R : cf_Rel t hi hl v) (E : ∀ b, hi 0 b = xs b) (go : ∀ t hi hl v, cf_Rel t hi hl v → (∀ b, hi 0 b = xs b) → rx_aw 0 1081 [.ref 0, .ref 1, .ref 90, .int (nI i)] [] (rx_hp L t hi hl v) (lw_F L)) : rx_aw 0 223 [.ref 0, .ref 1, .ref 90, .int (nI i)] [] (rx_hp L t hi hl v) (lw_F L) := by
  obtain ⟨S, ls, R⟩ := R
  have main : ∀ g : Nat, g ≤ 1 → (xs (i + 2) = 0 ↔ g = 0) → rx_aw 0 242 [.ref 0, .ref 1, .ref 90, .int (nI i)] [.int (nI g), .int (xs (i + 1)), .ref 1] (rx_hp L t hi hl v) (lw_F L) := by
    intro g hg hx
    refine rx_w_callI (j := 30) (pc := 242) rfl rfl rfl rfl rfl ?_
    refine rx_aw.mono (cf_pr_0 (cf_pr_row (L := L) (t := t) (xs (i + 1)) g hg S ls hi hl v R)) (fun r h2 k => ?_)
    obtain ⟨z, rfl, hi2, hl2, v2, rfl, k, E2⟩ := k
    refine ⟨z, rfl, ?_⟩
    have last : rx_aw 0 264 [.ref 0, .ref 1, .ref 90, .int (nI i)] [.int (nI g), .int (xs (i + 1)), .ref 90, .int z] (rx_hp L t hi2 hl2 v2) (lw_F L) := by
      refine rx_w_callI (j := 205) (pc := 264) rfl rfl rfl rfl rfl ?_
      refine rx_aw.mono (cf_pr_0 k) (fun r h2 k => ?_)
      obtain ⟨z2, rfl, hi3, hl3, v3, rfl, ⟨ez, R3⟩, E3⟩ := k
      refine ⟨z2, rfl, ?_⟩
      refine rx_aw_s 1 (pc := 267) rfl ?_
      exact rx_w_if (c := z = z2) ⟨fun _ => go t hi3 hl3 v3 R3 (fun b => (E3 b).trans ((E2 b).trans (E b))), fun q => absurd ez.symm q⟩
    refine rx_aw_s 5 (pc := 245) rfl ?_
    refine rx_w_iald (pc := 250) (n := L) rfl rfl rfl (by omega) ⟨i + 1, nI_add i 1, by omega, ?_⟩
    refine rx_aw_s 4 (pc := 251) rfl ?_
    refine rx_w_iald (pc := 255) (n := L) rfl rfl rfl (by omega) ⟨i + 2, nI_add i 2, by omega, ?_⟩
    show rx_aw 0 256 [.ref 0, .ref 1, .ref 90, .int (nI i)] [.int (hi2 0 (i + 2)), .int (hi2 0 (i + 1)), .ref 90, .int z] (rx_hp L t hi2 hl2 v2) (lw_F L)
    rw [E2 (i + 1), E (i + 1), E2 (i + 2), E (i + 2)]
    refine rx_aw_s 1 (pc := 256) rfl ?_
    refine rx_w_if (c := xs (i + 2) = 0) ⟨fun q => ?_, fun q => ?_⟩
    · refine rx_aw_s 1 (pc := 263) rfl ?_
      have := hx.mp q
      subst this
      exact last
    · refine rx_aw_s 2 (pc := 259) rfl ?_
      have : g = 1 := by
        have : ¬ g = 0 := fun w => q (hx.mpr w)
        omega
      subst this
      exact last
  refine rx_aw_s 5 (pc := 223) rfl ?_
  refine rx_w_iald (pc := 228) (n := L) rfl rfl rfl (by omega) ⟨i + 1, nI_add i 1, by omega, ?_⟩
  refine rx_aw_s 4 (pc := 229) rfl ?_
  refine rx_w_iald (pc := 233) (n := L) rfl rfl rfl (by omega) ⟨i + 2, nI_add i 2, by omega, ?_⟩
  show rx_aw 0 234 [.ref 0, .ref 1, .ref 90, .int (nI i)] [.int (hi 0 (i + 2)), .int (hi 0 (i + 1)), .ref 1] (rx_hp L t hi hl v) (lw_F L)
  rw [E (i + 1), E (i + 2)]
  refine rx_aw_s 1 (pc := 234) rfl ?_
  refine rx_w_if (c := xs (i + 2) = 0) ⟨fun q => ?_, fun q => ?_⟩
  · refine rx_aw_s 1 (pc := 241) rfl ?_
    exact main 0 (by omega) ⟨fun _ => rfl, fun _ => q⟩
  · refine rx_aw_s 2 (pc := 237) rfl ?_
    exact main 1 (by omega) ⟨fun w => absurd w q, fun w => by omega⟩
set_option maxRecDepth 100000 in
theorem lw_shelf (hL : L ≤ 3074) (hi6 : i + 6 ≤ L) (R : cf_Rel t hi hl v) (E : ∀ b, hi 0 b = xs b) (go : ∀ t hi hl v, cf_Rel t hi hl v → (∀ b, hi 0 b = xs b) → rx_aw 0 1081 [.ref 0, .ref 1, .ref 90, .int (nI i)] [] (rx_hp L t hi hl v) (lw_F L)) : rx_aw 0 272 [.ref 0, .ref 1, .ref 90, .int (nI i)] [] (rx_hp L t hi hl v) (lw_F L) := by
  obtain ⟨S, ls, R⟩ := R
  refine rx_aw_s 5 (pc := 272) rfl ?_
  refine rx_w_iald (pc := 277) (n := L) rfl rfl rfl (by omega) ⟨i + 1, nI_add i 1, by omega, ?_⟩
  refine rx_aw_s 4 (pc := 278) rfl ?_
  refine rx_w_iald (pc := 282) (n := L) rfl rfl rfl (by omega) ⟨i + 2, nI_add i 2, by omega, ?_⟩
  show rx_aw 0 283 [.ref 0, .ref 1, .ref 90, .int (nI i)] [.int (hi 0 (i + 2)), .int (hi 0 (i + 1)), .ref 1] (rx_hp L t hi hl v) (lw_F L)
  rw [E (i + 1), E (i + 2)]
  refine rx_w_callI (j := 34) (pc := 283) rfl rfl rfl rfl rfl ?_
  refine rx_aw.mono (cf_pr_0 (cf_pr_shelf (L := L) (t := t) (xs (i + 1)) (xs (i + 2)) S ls hi hl v R)) (fun r h2 k => ?_)
  obtain ⟨z, rfl, hi2, hl2, v2, rfl, k, E2⟩ := k
  refine ⟨z, rfl, ?_⟩
  refine rx_aw_s 5 (pc := 286) rfl ?_
  refine rx_w_iald (pc := 291) (n := L) rfl rfl rfl (by omega) ⟨i + 1, nI_add i 1, by omega, ?_⟩
  refine rx_aw_s 4 (pc := 292) rfl ?_
  refine rx_w_iald (pc := 296) (n := L) rfl rfl rfl (by omega) ⟨i + 2, nI_add i 2, by omega, ?_⟩
  show rx_aw 0 297 [.ref 0, .ref 1, .ref 90, .int (nI i)] [.int (hi2 0 (i + 2)), .int (hi2 0 (i + 1)), .ref 90, .int z] (rx_hp L t hi2 hl2 v2) (lw_F L)
  rw [E2 (i + 1), E (i + 1), E2 (i + 2), E (i + 2)]
  refine rx_w_callI (j := 206) (pc := 297) rfl rfl rfl rfl rfl ?_
  refine rx_aw.mono (cf_pr_0 k) (fun r h2 k => ?_)
  obtain ⟨z2, rfl, hi3, hl3, v3, rfl, ⟨ez, R3⟩, E3⟩ := k
  refine ⟨z2, rfl, ?_⟩
  refine rx_aw_s 1 (pc := 300) rfl ?_
  exact rx_w_if (c := z = z2) ⟨fun _ => go t hi3 hl3 v3 R3 (fun b => (E3 b).trans ((E2 b).trans (E b))), fun q => absurd ez.symm q⟩
set_option maxRecDepth 100000 in
theorem lw_cart (hL : L ≤ 3074) (hi6 : i + 6 ≤ L) (R : cf_Rel t hi hl v) (E : ∀ b, hi 0 b = xs b) (go : ∀ t hi hl v, cf_Rel t hi hl v → (∀ b, hi 0 b = xs b) → rx_aw 0 1081 [.ref 0, .ref 1, .ref 90, .int (nI i)] [] (rx_hp L t hi hl v) (lw_F L)) : rx_aw 0 305 [.ref 0, .ref 1, .ref 90, .int (nI i)] [] (rx_hp L t hi hl v) (lw_F L) := by
  obtain ⟨S, ls, R⟩ := R
  refine rx_aw_s 5 (pc := 305) rfl ?_
  refine rx_w_iald (pc := 310) (n := L) rfl rfl rfl (by omega) ⟨i + 1, nI_add i 1, by omega, ?_⟩
  refine rx_aw_s 4 (pc := 311) rfl ?_
  refine rx_w_iald (pc := 315) (n := L) rfl rfl rfl (by omega) ⟨i + 2, nI_add i 2, by omega, ?_⟩
  refine rx_aw_s 4 (pc := 316) rfl ?_
  refine rx_w_iald (pc := 320) (n := L) rfl rfl rfl (by omega) ⟨i + 3, nI_add i 3, by omega, ?_⟩
  refine rx_aw_s 4 (pc := 321) rfl ?_
  refine rx_w_iald (pc := 325) (n := L) rfl rfl rfl (by omega) ⟨i + 4, nI_add i 4, by omega, ?_⟩
  show rx_aw 0 326 [.ref 0, .ref 1, .ref 90, .int (nI i)] [.int (hi 0 (i + 4)), .int (hi 0 (i + 3)), .int (hi 0 (i + 2)), .int (hi 0 (i + 1)), .ref 1] (rx_hp L t hi hl v) (lw_F L)
  rw [E (i + 1), E (i + 2), E (i + 3), E (i + 4)]
  refine rx_w_callI (j := 54) (pc := 326) rfl rfl rfl rfl rfl ?_
  refine rx_aw.mono (cf_pr_0 (cf_pr_cart (L := L) (t := t) (xs (i + 1)) (xs (i + 2)) (xs (i + 3)) (xs (i + 4)) S ls hi hl v R)) (fun r h2 k => ?_)
  obtain ⟨z, rfl, hi2, hl2, v2, rfl, k, E2⟩ := k
  refine ⟨z, rfl, ?_⟩
  refine rx_aw_s 5 (pc := 329) rfl ?_
  refine rx_w_iald (pc := 334) (n := L) rfl rfl rfl (by omega) ⟨i + 1, nI_add i 1, by omega, ?_⟩
  refine rx_aw_s 4 (pc := 335) rfl ?_
  refine rx_w_iald (pc := 339) (n := L) rfl rfl rfl (by omega) ⟨i + 2, nI_add i 2, by omega, ?_⟩
  refine rx_aw_s 4 (pc := 340) rfl ?_
  refine rx_w_iald (pc := 344) (n := L) rfl rfl rfl (by omega) ⟨i + 3, nI_add i 3, by omega, ?_⟩
  refine rx_aw_s 4 (pc := 345) rfl ?_
  refine rx_w_iald (pc := 349) (n := L) rfl rfl rfl (by omega) ⟨i + 4, nI_add i 4, by omega, ?_⟩
  show rx_aw 0 350 [.ref 0, .ref 1, .ref 90, .int (nI i)] [.int (hi2 0 (i + 4)), .int (hi2 0 (i + 3)), .int (hi2 0 (i + 2)), .int (hi2 0 (i + 1)), .ref 90, .int z] (rx_hp L t hi2 hl2 v2) (lw_F L)
  rw [E2 (i + 1), E (i + 1), E2 (i + 2), E (i + 2), E2 (i + 3), E (i + 3), E2 (i + 4), E (i + 4)]
  refine rx_w_callI (j := 210) (pc := 350) rfl rfl rfl rfl rfl ?_
  refine rx_aw.mono (cf_pr_0 k) (fun r h2 k => ?_)
  obtain ⟨z2, rfl, hi3, hl3, v3, rfl, ⟨ez, R3⟩, E3⟩ := k
  refine ⟨z2, rfl, ?_⟩
  refine rx_aw_s 1 (pc := 353) rfl ?_
  exact rx_w_if (c := z = z2) ⟨fun _ => go t hi3 hl3 v3 R3 (fun b => (E3 b).trans ((E2 b).trans (E b))), fun q => absurd ez.symm q⟩
set_option maxRecDepth 100000 in
theorem lw_errand (hL : L ≤ 3074) (hi6 : i + 6 ≤ L) (R : cf_Rel t hi hl v) (E : ∀ b, hi 0 b = xs b) (go : ∀ t hi hl v, cf_Rel t hi hl v → (∀ b, hi 0 b = xs b) → rx_aw 0 1081 [.ref 0, .ref 1, .ref 90, .int (nI i)] [] (rx_hp L t hi hl v) (lw_F L)) : rx_aw 0 358 [.ref 0, .ref 1, .ref 90, .int (nI i)] [] (rx_hp L t hi hl v) (lw_F L) := by
  obtain ⟨S, ls, R⟩ := R
  refine rx_aw_s 5 (pc := 358) rfl ?_
  refine rx_w_iald (pc := 363) (n := L) rfl rfl rfl (by omega) ⟨i + 1, nI_add i 1, by omega, ?_⟩
  refine rx_aw_s 4 (pc := 364) rfl ?_
  refine rx_w_iald (pc := 368) (n := L) rfl rfl rfl (by omega) ⟨i + 2, nI_add i 2, by omega, ?_⟩
  refine rx_aw_s 4 (pc := 369) rfl ?_
  refine rx_w_iald (pc := 373) (n := L) rfl rfl rfl (by omega) ⟨i + 3, nI_add i 3, by omega, ?_⟩
  refine rx_aw_s 4 (pc := 374) rfl ?_
  refine rx_w_iald (pc := 378) (n := L) rfl rfl rfl (by omega) ⟨i + 4, nI_add i 4, by omega, ?_⟩
  show rx_aw 0 379 [.ref 0, .ref 1, .ref 90, .int (nI i)] [.int (hi 0 (i + 4)), .int (hi 0 (i + 3)), .int (hi 0 (i + 2)), .int (hi 0 (i + 1)), .ref 1] (rx_hp L t hi hl v) (lw_F L)
  rw [E (i + 1), E (i + 2), E (i + 3), E (i + 4)]
  refine rx_w_callI (j := 58) (pc := 379) rfl rfl rfl rfl rfl ?_
  refine rx_aw.mono (cf_pr_0 (cf_pr_errand (L := L) (t := t) (xs (i + 1)) (xs (i + 2)) (xs (i + 3)) (xs (i + 4)) S ls hi hl v R)) (fun r h2 k => ?_)
  obtain ⟨z, rfl, hi2, hl2, v2, rfl, k, E2⟩ := k
  refine ⟨z, rfl, ?_⟩
  refine rx_aw_s 5 (pc := 382) rfl ?_
  refine rx_w_iald (pc := 387) (n := L) rfl rfl rfl (by omega) ⟨i + 1, nI_add i 1, by omega, ?_⟩
  refine rx_aw_s 4 (pc := 388) rfl ?_
  refine rx_w_iald (pc := 392) (n := L) rfl rfl rfl (by omega) ⟨i + 2, nI_add i 2, by omega, ?_⟩
  refine rx_aw_s 4 (pc := 393) rfl ?_
  refine rx_w_iald (pc := 397) (n := L) rfl rfl rfl (by omega) ⟨i + 3, nI_add i 3, by omega, ?_⟩
  refine rx_aw_s 4 (pc := 398) rfl ?_
  refine rx_w_iald (pc := 402) (n := L) rfl rfl rfl (by omega) ⟨i + 4, nI_add i 4, by omega, ?_⟩
  show rx_aw 0 403 [.ref 0, .ref 1, .ref 90, .int (nI i)] [.int (hi2 0 (i + 4)), .int (hi2 0 (i + 3)), .int (hi2 0 (i + 2)), .int (hi2 0 (i + 1)), .ref 90, .int z] (rx_hp L t hi2 hl2 v2) (lw_F L)
  rw [E2 (i + 1), E (i + 1), E2 (i + 2), E (i + 2), E2 (i + 3), E (i + 3), E2 (i + 4), E (i + 4)]
  refine rx_w_callI (j := 211) (pc := 403) rfl rfl rfl rfl rfl ?_
  refine rx_aw.mono (cf_pr_0 k) (fun r h2 k => ?_)
  obtain ⟨z2, rfl, hi3, hl3, v3, rfl, ⟨ez, R3⟩, E3⟩ := k
  refine ⟨z2, rfl, ?_⟩
  refine rx_aw_s 1 (pc := 406) rfl ?_
  exact rx_w_if (c := z = z2) ⟨fun _ => go t hi3 hl3 v3 R3 (fun b => (E3 b).trans ((E2 b).trans (E b))), fun q => absurd ez.symm q⟩
set_option maxRecDepth 100000 in
theorem lw_plan (hL : L ≤ 3074) (hi6 : i + 6 ≤ L) (R : cf_Rel t hi hl v) (E : ∀ b, hi 0 b = xs b) (go : ∀ t hi hl v, cf_Rel t hi hl v → (∀ b, hi 0 b = xs b) → rx_aw 0 1081 [.ref 0, .ref 1, .ref 90, .int (nI i)] [] (rx_hp L t hi hl v) (lw_F L)) : rx_aw 0 411 [.ref 0, .ref 1, .ref 90, .int (nI i)] [] (rx_hp L t hi hl v) (lw_F L) := by
  obtain ⟨S, ls, R⟩ := R
  refine rx_aw_s 5 (pc := 411) rfl ?_
  refine rx_w_iald (pc := 416) (n := L) rfl rfl rfl (by omega) ⟨i + 1, nI_add i 1, by omega, ?_⟩
  show rx_aw 0 417 [.ref 0, .ref 1, .ref 90, .int (nI i)] [.int (hi 0 (i + 1)), .ref 1] (rx_hp L t hi hl v) (lw_F L)
  rw [E (i + 1)]
  refine rx_w_callI (j := 61) (pc := 417) rfl rfl rfl rfl rfl ?_
  refine rx_aw.mono (cf_pr_0 (cf_pr_plan (L := L) (t := t) (xs (i + 1)) S ls hi hl v R)) (fun r h2 k => ?_)
  obtain ⟨z, rfl, hi2, hl2, v2, rfl, k, E2⟩ := k
  refine ⟨z, rfl, ?_⟩
  refine rx_aw_s 5 (pc := 420) rfl ?_
  refine rx_w_iald (pc := 425) (n := L) rfl rfl rfl (by omega) ⟨i + 1, nI_add i 1, by omega, ?_⟩
  show rx_aw 0 426 [.ref 0, .ref 1, .ref 90, .int (nI i)] [.int (hi2 0 (i + 1)), .ref 90, .int z] (rx_hp L t hi2 hl2 v2) (lw_F L)
  rw [E2 (i + 1), E (i + 1)]
  refine rx_w_callI (j := 160) (pc := 426) rfl rfl rfl rfl rfl ?_
  refine rx_aw.mono (cf_pr_0 k) (fun r h2 k => ?_)
  obtain ⟨z2, rfl, hi3, hl3, v3, rfl, ⟨ez, R3⟩, E3⟩ := k
  refine ⟨z2, rfl, ?_⟩
  refine rx_aw_s 1 (pc := 429) rfl ?_
  exact rx_w_if (c := z = z2) ⟨fun _ => go t hi3 hl3 v3 R3 (fun b => (E3 b).trans ((E2 b).trans (E b))), fun q => absurd ez.symm q⟩
set_option maxRecDepth 100000 in
theorem lw_many (hL : L ≤ 3074) (hi6 : i + 6 ≤ L) (R : cf_Rel t hi hl v) (E : ∀ b, hi 0 b = xs b) (go : ∀ t hi hl v, cf_Rel t hi hl v → (∀ b, hi 0 b = xs b) → rx_aw 0 1081 [.ref 0, .ref 1, .ref 90, .int (nI i)] [] (rx_hp L t hi hl v) (lw_F L)) : rx_aw 0 434 [.ref 0, .ref 1, .ref 90, .int (nI i)] [] (rx_hp L t hi hl v) (lw_F L) := by
  obtain ⟨S, ls, R⟩ := R
  refine rx_aw_s 1 (pc := 434) rfl ?_
  show rx_aw 0 435 [.ref 0, .ref 1, .ref 90, .int (nI i)] [.ref 1] (rx_hp L t hi hl v) (lw_F L)
  refine rx_w_callI (j := 84) (pc := 435) rfl rfl rfl rfl rfl ?_
  refine rx_aw.mono (cf_pr_0 (cf_pr_many (L := L) (t := t)  S ls hi hl v R)) (fun r h2 k => ?_)
  obtain ⟨z, rfl, hi2, hl2, v2, rfl, k, E2⟩ := k
  refine ⟨z, rfl, ?_⟩
  refine rx_aw_s 1 (pc := 438) rfl ?_
  show rx_aw 0 439 [.ref 0, .ref 1, .ref 90, .int (nI i)] [.ref 90, .int z] (rx_hp L t hi2 hl2 v2) (lw_F L)
  refine rx_w_callI (j := 198) (pc := 439) rfl rfl rfl rfl rfl ?_
  refine rx_aw.mono (cf_pr_0 k) (fun r h2 k => ?_)
  obtain ⟨z2, rfl, hi3, hl3, v3, rfl, ⟨ez, R3⟩, E3⟩ := k
  refine ⟨z2, rfl, ?_⟩
  refine rx_aw_s 1 (pc := 442) rfl ?_
  exact rx_w_if (c := z = z2) ⟨fun _ => go t hi3 hl3 v3 R3 (fun b => (E3 b).trans ((E2 b).trans (E b))), fun q => absurd ez.symm q⟩
set_option maxRecDepth 100000 in
theorem lw_stop (hL : L ≤ 3074) (hi6 : i + 6 ≤ L) (R : cf_Rel t hi hl v) (E : ∀ b, hi 0 b = xs b) (go : ∀ t hi hl v, cf_Rel t hi hl v → (∀ b, hi 0 b = xs b) → rx_aw 0 1081 [.ref 0, .ref 1, .ref 90, .int (nI i)] [] (rx_hp L t hi hl v) (lw_F L)) : rx_aw 0 447 [.ref 0, .ref 1, .ref 90, .int (nI i)] [] (rx_hp L t hi hl v) (lw_F L) := by
  obtain ⟨S, ls, R⟩ := R
  refine rx_aw_s 5 (pc := 447) rfl ?_
  refine rx_w_iald (pc := 452) (n := L) rfl rfl rfl (by omega) ⟨i + 1, nI_add i 1, by omega, ?_⟩
  refine rx_aw_s 4 (pc := 453) rfl ?_
  refine rx_w_iald (pc := 457) (n := L) rfl rfl rfl (by omega) ⟨i + 2, nI_add i 2, by omega, ?_⟩
  show rx_aw 0 458 [.ref 0, .ref 1, .ref 90, .int (nI i)] [.int (hi 0 (i + 2)), .int (hi 0 (i + 1)), .ref 1] (rx_hp L t hi hl v) (lw_F L)
  rw [E (i + 1), E (i + 2)]
  refine rx_w_callI (j := 85) (pc := 458) rfl rfl rfl rfl rfl ?_
  refine rx_aw.mono (cf_pr_0 (cf_pr_stop (L := L) (t := t) (xs (i + 1)) (xs (i + 2)) S ls hi hl v R)) (fun r h2 k => ?_)
  obtain ⟨z, rfl, hi2, hl2, v2, rfl, k, E2⟩ := k
  refine ⟨z, rfl, ?_⟩
  refine rx_aw_s 5 (pc := 461) rfl ?_
  refine rx_w_iald (pc := 466) (n := L) rfl rfl rfl (by omega) ⟨i + 1, nI_add i 1, by omega, ?_⟩
  refine rx_aw_s 4 (pc := 467) rfl ?_
  refine rx_w_iald (pc := 471) (n := L) rfl rfl rfl (by omega) ⟨i + 2, nI_add i 2, by omega, ?_⟩
  show rx_aw 0 472 [.ref 0, .ref 1, .ref 90, .int (nI i)] [.int (hi2 0 (i + 2)), .int (hi2 0 (i + 1)), .ref 90, .int z] (rx_hp L t hi2 hl2 v2) (lw_F L)
  rw [E2 (i + 1), E (i + 1), E2 (i + 2), E (i + 2)]
  refine rx_w_callI (j := 199) (pc := 472) rfl rfl rfl rfl rfl ?_
  refine rx_aw.mono (cf_pr_0 k) (fun r h2 k => ?_)
  obtain ⟨z2, rfl, hi3, hl3, v3, rfl, ⟨ez, R3⟩, E3⟩ := k
  refine ⟨z2, rfl, ?_⟩
  refine rx_aw_s 1 (pc := 475) rfl ?_
  exact rx_w_if (c := z = z2) ⟨fun _ => go t hi3 hl3 v3 R3 (fun b => (E3 b).trans ((E2 b).trans (E b))), fun q => absurd ez.symm q⟩
set_option maxRecDepth 100000 in
theorem lw_dawn (hL : L ≤ 3074) (hi6 : i + 6 ≤ L) (R : cf_Rel t hi hl v) (E : ∀ b, hi 0 b = xs b) (go : ∀ t hi hl v, cf_Rel t hi hl v → (∀ b, hi 0 b = xs b) → rx_aw 0 1081 [.ref 0, .ref 1, .ref 90, .int (nI i)] [] (rx_hp L t hi hl v) (lw_F L)) : rx_aw 0 480 [.ref 0, .ref 1, .ref 90, .int (nI i)] [] (rx_hp L t hi hl v) (lw_F L) := by
  obtain ⟨S, ls, R⟩ := R
  refine rx_aw_s 1 (pc := 480) rfl ?_
  show rx_aw 0 481 [.ref 0, .ref 1, .ref 90, .int (nI i)] [.ref 1] (rx_hp L t hi hl v) (lw_F L)
  refine rx_w_callI (j := 96) (pc := 481) rfl rfl rfl rfl rfl ?_
  refine rx_aw.mono (cf_pr_0 (cf_pr_dawn (L := L) (t := t)  S ls hi hl v R)) (fun r h2 k => ?_)
  obtain ⟨z, rfl, hi2, hl2, v2, rfl, k, E2⟩ := k
  refine ⟨z, rfl, ?_⟩
  refine rx_aw_s 1 (pc := 484) rfl ?_
  show rx_aw 0 485 [.ref 0, .ref 1, .ref 90, .int (nI i)] [.ref 90, .int z] (rx_hp L t hi2 hl2 v2) (lw_F L)
  refine rx_w_callI (j := 203) (pc := 485) rfl rfl rfl rfl rfl ?_
  refine rx_aw.mono (cf_pr_0 k) (fun r h2 k => ?_)
  obtain ⟨z2, rfl, hi3, hl3, v3, rfl, ⟨ez, R3⟩, E3⟩ := k
  refine ⟨z2, rfl, ?_⟩
  refine rx_aw_s 1 (pc := 488) rfl ?_
  exact rx_w_if (c := z = z2) ⟨fun _ => go t hi3 hl3 v3 R3 (fun b => (E3 b).trans ((E2 b).trans (E b))), fun q => absurd ez.symm q⟩
set_option maxRecDepth 100000 in
theorem lw_tell (hL : L ≤ 3074) (hi6 : i + 6 ≤ L) (R : cf_Rel t hi hl v) (E : ∀ b, hi 0 b = xs b) (go : ∀ t hi hl v, cf_Rel t hi hl v → (∀ b, hi 0 b = xs b) → rx_aw 0 1081 [.ref 0, .ref 1, .ref 90, .int (nI i)] [] (rx_hp L t hi hl v) (lw_F L)) : rx_aw 0 493 [.ref 0, .ref 1, .ref 90, .int (nI i)] [] (rx_hp L t hi hl v) (lw_F L) := by
  obtain ⟨S, ls, R⟩ := R
  refine rx_aw_s 5 (pc := 493) rfl ?_
  refine rx_w_iald (pc := 498) (n := L) rfl rfl rfl (by omega) ⟨i + 1, nI_add i 1, by omega, ?_⟩
  refine rx_aw_s 4 (pc := 499) rfl ?_
  refine rx_w_iald (pc := 503) (n := L) rfl rfl rfl (by omega) ⟨i + 2, nI_add i 2, by omega, ?_⟩
  show rx_aw 0 504 [.ref 0, .ref 1, .ref 90, .int (nI i)] [.int (hi 0 (i + 2)), .int (hi 0 (i + 1)), .ref 1] (rx_hp L t hi hl v) (lw_F L)
  rw [E (i + 1), E (i + 2)]
  refine rx_w_callI (j := 97) (pc := 504) rfl rfl rfl rfl rfl ?_
  refine rx_aw.mono (cf_pr_0 (cf_pr_tell (L := L) (t := t) (xs (i + 1)) (xs (i + 2)) S ls hi hl v R)) (fun r h2 k => ?_)
  obtain ⟨z, rfl, hi2, hl2, v2, rfl, k, E2⟩ := k
  refine ⟨z, rfl, ?_⟩
  refine rx_aw_s 5 (pc := 507) rfl ?_
  refine rx_w_iald (pc := 512) (n := L) rfl rfl rfl (by omega) ⟨i + 1, nI_add i 1, by omega, ?_⟩
  refine rx_aw_s 4 (pc := 513) rfl ?_
  refine rx_w_iald (pc := 517) (n := L) rfl rfl rfl (by omega) ⟨i + 2, nI_add i 2, by omega, ?_⟩
  show rx_aw 0 518 [.ref 0, .ref 1, .ref 90, .int (nI i)] [.int (hi2 0 (i + 2)), .int (hi2 0 (i + 1)), .ref 90, .int z] (rx_hp L t hi2 hl2 v2) (lw_F L)
  rw [E2 (i + 1), E (i + 1), E2 (i + 2), E (i + 2)]
  refine rx_w_callI (j := 212) (pc := 518) rfl rfl rfl rfl rfl ?_
  refine rx_aw.mono (cf_pr_0 k) (fun r h2 k => ?_)
  obtain ⟨z2, rfl, hi3, hl3, v3, rfl, ⟨ez, R3⟩, E3⟩ := k
  refine ⟨z2, rfl, ?_⟩
  refine rx_aw_s 1 (pc := 521) rfl ?_
  exact rx_w_if (c := z = z2) ⟨fun _ => go t hi3 hl3 v3 R3 (fun b => (E3 b).trans ((E2 b).trans (E b))), fun q => absurd ez.symm q⟩
set_option maxRecDepth 100000 in
theorem lw_hush (hL : L ≤ 3074) (hi6 : i + 6 ≤ L) (R : cf_Rel t hi hl v) (E : ∀ b, hi 0 b = xs b) (go : ∀ t hi hl v, cf_Rel t hi hl v → (∀ b, hi 0 b = xs b) → rx_aw 0 1081 [.ref 0, .ref 1, .ref 90, .int (nI i)] [] (rx_hp L t hi hl v) (lw_F L)) : rx_aw 0 526 [.ref 0, .ref 1, .ref 90, .int (nI i)] [] (rx_hp L t hi hl v) (lw_F L) := by
  obtain ⟨S, ls, R⟩ := R
  refine rx_aw_s 1 (pc := 526) rfl ?_
  show rx_aw 0 527 [.ref 0, .ref 1, .ref 90, .int (nI i)] [.ref 1] (rx_hp L t hi hl v) (lw_F L)
  refine rx_w_callI (j := 99) (pc := 527) rfl rfl rfl rfl rfl ?_
  refine rx_aw.mono (cf_pr_0 (cf_pr_hush (L := L) (t := t)  S ls hi hl v R)) (fun r h2 k => ?_)
  obtain ⟨z, rfl, hi2, hl2, v2, rfl, k, E2⟩ := k
  refine ⟨z, rfl, ?_⟩
  refine rx_aw_s 1 (pc := 530) rfl ?_
  show rx_aw 0 531 [.ref 0, .ref 1, .ref 90, .int (nI i)] [.ref 90, .int z] (rx_hp L t hi2 hl2 v2) (lw_F L)
  refine rx_w_callI (j := 213) (pc := 531) rfl rfl rfl rfl rfl ?_
  refine rx_aw.mono (cf_pr_0 k) (fun r h2 k => ?_)
  obtain ⟨z2, rfl, hi3, hl3, v3, rfl, ⟨ez, R3⟩, E3⟩ := k
  refine ⟨z2, rfl, ?_⟩
  refine rx_aw_s 1 (pc := 534) rfl ?_
  exact rx_w_if (c := z = z2) ⟨fun _ => go t hi3 hl3 v3 R3 (fun b => (E3 b).trans ((E2 b).trans (E b))), fun q => absurd ez.symm q⟩
set_option maxRecDepth 100000 in
theorem lw_check (hL : L ≤ 3074) (hi6 : i + 6 ≤ L) (R : cf_Rel t hi hl v) (E : ∀ b, hi 0 b = xs b) (go : ∀ t hi hl v, cf_Rel t hi hl v → (∀ b, hi 0 b = xs b) → rx_aw 0 1081 [.ref 0, .ref 1, .ref 90, .int (nI i)] [] (rx_hp L t hi hl v) (lw_F L)) : rx_aw 0 539 [.ref 0, .ref 1, .ref 90, .int (nI i)] [] (rx_hp L t hi hl v) (lw_F L) := by
  obtain ⟨S, ls, R⟩ := R
  refine rx_aw_s 5 (pc := 539) rfl ?_
  refine rx_w_iald (pc := 544) (n := L) rfl rfl rfl (by omega) ⟨i + 1, nI_add i 1, by omega, ?_⟩
  show rx_aw 0 545 [.ref 0, .ref 1, .ref 90, .int (nI i)] [.int (hi 0 (i + 1)), .ref 1] (rx_hp L t hi hl v) (lw_F L)
  rw [E (i + 1)]
  refine rx_w_callI (j := 100) (pc := 545) rfl rfl rfl rfl rfl ?_
  refine rx_aw.mono (cf_pr_0 (cf_pr_check (L := L) (t := t) (xs (i + 1)) S ls hi hl v R)) (fun r h2 k => ?_)
  obtain ⟨z, rfl, hi2, hl2, v2, rfl, k, E2⟩ := k
  refine ⟨z, rfl, ?_⟩
  refine rx_aw_s 5 (pc := 548) rfl ?_
  refine rx_w_iald (pc := 553) (n := L) rfl rfl rfl (by omega) ⟨i + 1, nI_add i 1, by omega, ?_⟩
  show rx_aw 0 554 [.ref 0, .ref 1, .ref 90, .int (nI i)] [.int (hi2 0 (i + 1)), .ref 90, .int z] (rx_hp L t hi2 hl2 v2) (lw_F L)
  rw [E2 (i + 1), E (i + 1)]
  refine rx_w_callI (j := 214) (pc := 554) rfl rfl rfl rfl rfl ?_
  refine rx_aw.mono (cf_pr_0 k) (fun r h2 k => ?_)
  obtain ⟨z2, rfl, hi3, hl3, v3, rfl, ⟨ez, R3⟩, E3⟩ := k
  refine ⟨z2, rfl, ?_⟩
  refine rx_aw_s 1 (pc := 557) rfl ?_
  exact rx_w_if (c := z = z2) ⟨fun _ => go t hi3 hl3 v3 R3 (fun b => (E3 b).trans ((E2 b).trans (E b))), fun q => absurd ez.symm q⟩
set_option maxRecDepth 100000 in
theorem lw_guest (hL : L ≤ 3074) (hi6 : i + 6 ≤ L) (R : cf_Rel t hi hl v) (E : ∀ b, hi 0 b = xs b) (go : ∀ t hi hl v, cf_Rel t hi hl v → (∀ b, hi 0 b = xs b) → rx_aw 0 1081 [.ref 0, .ref 1, .ref 90, .int (nI i)] [] (rx_hp L t hi hl v) (lw_F L)) : rx_aw 0 562 [.ref 0, .ref 1, .ref 90, .int (nI i)] [] (rx_hp L t hi hl v) (lw_F L) := by
  obtain ⟨S, ls, R⟩ := R
  refine rx_aw_s 5 (pc := 562) rfl ?_
  refine rx_w_iald (pc := 567) (n := L) rfl rfl rfl (by omega) ⟨i + 1, nI_add i 1, by omega, ?_⟩
  show rx_aw 0 568 [.ref 0, .ref 1, .ref 90, .int (nI i)] [.int (hi 0 (i + 1)), .ref 1] (rx_hp L t hi hl v) (lw_F L)
  rw [E (i + 1)]
  refine rx_w_callI (j := 106) (pc := 568) rfl rfl rfl rfl rfl ?_
  refine rx_aw.mono (cf_pr_0 (cf_pr_guest (L := L) (t := t) (xs (i + 1)) S ls hi hl v R)) (fun r h2 k => ?_)
  obtain ⟨z, rfl, hi2, hl2, v2, rfl, k, E2⟩ := k
  refine ⟨z, rfl, ?_⟩
  refine rx_aw_s 5 (pc := 571) rfl ?_
  refine rx_w_iald (pc := 576) (n := L) rfl rfl rfl (by omega) ⟨i + 1, nI_add i 1, by omega, ?_⟩
  show rx_aw 0 577 [.ref 0, .ref 1, .ref 90, .int (nI i)] [.int (hi2 0 (i + 1)), .ref 90, .int z] (rx_hp L t hi2 hl2 v2) (lw_F L)
  rw [E2 (i + 1), E (i + 1)]
  refine rx_w_callI (j := 217) (pc := 577) rfl rfl rfl rfl rfl ?_
  refine rx_aw.mono (cf_pr_0 k) (fun r h2 k => ?_)
  obtain ⟨z2, rfl, hi3, hl3, v3, rfl, ⟨ez, R3⟩, E3⟩ := k
  refine ⟨z2, rfl, ?_⟩
  refine rx_aw_s 1 (pc := 580) rfl ?_
  exact rx_w_if (c := z = z2) ⟨fun _ => go t hi3 hl3 v3 R3 (fun b => (E3 b).trans ((E2 b).trans (E b))), fun q => absurd ez.symm q⟩
set_option maxRecDepth 100000 in
theorem lw_at (hL : L ≤ 3074) (hi6 : i + 6 ≤ L) (R : cf_Rel t hi hl v) (E : ∀ b, hi 0 b = xs b) (go : ∀ t hi hl v, cf_Rel t hi hl v → (∀ b, hi 0 b = xs b) → rx_aw 0 1081 [.ref 0, .ref 1, .ref 90, .int (nI i)] [] (rx_hp L t hi hl v) (lw_F L)) : rx_aw 0 585 [.ref 0, .ref 1, .ref 90, .int (nI i)] [] (rx_hp L t hi hl v) (lw_F L) := by
  obtain ⟨S, ls, R⟩ := R
  refine rx_aw_s 5 (pc := 585) rfl ?_
  refine rx_w_iald (pc := 590) (n := L) rfl rfl rfl (by omega) ⟨i + 1, nI_add i 1, by omega, ?_⟩
  refine rx_aw_s 4 (pc := 591) rfl ?_
  refine rx_w_iald (pc := 595) (n := L) rfl rfl rfl (by omega) ⟨i + 2, nI_add i 2, by omega, ?_⟩
  refine rx_aw_s 4 (pc := 596) rfl ?_
  refine rx_w_iald (pc := 600) (n := L) rfl rfl rfl (by omega) ⟨i + 3, nI_add i 3, by omega, ?_⟩
  show rx_aw 0 601 [.ref 0, .ref 1, .ref 90, .int (nI i)] [.int (hi 0 (i + 3)), .int (hi 0 (i + 2)), .int (hi 0 (i + 1)), .ref 1] (rx_hp L t hi hl v) (lw_F L)
  rw [E (i + 1), E (i + 2), E (i + 3)]
  refine rx_w_callI (j := 108) (pc := 601) rfl rfl rfl rfl rfl ?_
  refine rx_aw.mono (cf_pr_0 (cf_pr_at (L := L) (t := t) (xs (i + 1)) (xs (i + 2)) (xs (i + 3)) S ls hi hl v R)) (fun r h2 k => ?_)
  obtain ⟨z, rfl, hi2, hl2, v2, rfl, k, E2⟩ := k
  refine ⟨z, rfl, ?_⟩
  refine rx_aw_s 5 (pc := 604) rfl ?_
  refine rx_w_iald (pc := 609) (n := L) rfl rfl rfl (by omega) ⟨i + 1, nI_add i 1, by omega, ?_⟩
  refine rx_aw_s 4 (pc := 610) rfl ?_
  refine rx_w_iald (pc := 614) (n := L) rfl rfl rfl (by omega) ⟨i + 2, nI_add i 2, by omega, ?_⟩
  refine rx_aw_s 4 (pc := 615) rfl ?_
  refine rx_w_iald (pc := 619) (n := L) rfl rfl rfl (by omega) ⟨i + 3, nI_add i 3, by omega, ?_⟩
  show rx_aw 0 620 [.ref 0, .ref 1, .ref 90, .int (nI i)] [.int (hi2 0 (i + 3)), .int (hi2 0 (i + 2)), .int (hi2 0 (i + 1)), .ref 90, .int z] (rx_hp L t hi2 hl2 v2) (lw_F L)
  rw [E2 (i + 1), E (i + 1), E2 (i + 2), E (i + 2), E2 (i + 3), E (i + 3)]
  refine rx_w_callI (j := 218) (pc := 620) rfl rfl rfl rfl rfl ?_
  refine rx_aw.mono (cf_pr_0 k) (fun r h2 k => ?_)
  obtain ⟨z2, rfl, hi3, hl3, v3, rfl, ⟨ez, R3⟩, E3⟩ := k
  refine ⟨z2, rfl, ?_⟩
  refine rx_aw_s 1 (pc := 623) rfl ?_
  exact rx_w_if (c := z = z2) ⟨fun _ => go t hi3 hl3 v3 R3 (fun b => (E3 b).trans ((E2 b).trans (E b))), fun q => absurd ez.symm q⟩
set_option maxRecDepth 100000 in
theorem lw_shelved (hL : L ≤ 3074) (hi6 : i + 6 ≤ L) (R : cf_Rel t hi hl v) (E : ∀ b, hi 0 b = xs b) (go : ∀ t hi hl v, cf_Rel t hi hl v → (∀ b, hi 0 b = xs b) → rx_aw 0 1081 [.ref 0, .ref 1, .ref 90, .int (nI i)] [] (rx_hp L t hi hl v) (lw_F L)) : rx_aw 0 628 [.ref 0, .ref 1, .ref 90, .int (nI i)] [] (rx_hp L t hi hl v) (lw_F L) := by
  obtain ⟨S, ls, R⟩ := R
  refine rx_aw_s 5 (pc := 628) rfl ?_
  refine rx_w_iald (pc := 633) (n := L) rfl rfl rfl (by omega) ⟨i + 1, nI_add i 1, by omega, ?_⟩
  refine rx_aw_s 4 (pc := 634) rfl ?_
  refine rx_w_iald (pc := 638) (n := L) rfl rfl rfl (by omega) ⟨i + 2, nI_add i 2, by omega, ?_⟩
  show rx_aw 0 639 [.ref 0, .ref 1, .ref 90, .int (nI i)] [.int (hi 0 (i + 2)), .int (hi 0 (i + 1)), .ref 1] (rx_hp L t hi hl v) (lw_F L)
  rw [E (i + 1), E (i + 2)]
  refine rx_w_callI (j := 109) (pc := 639) rfl rfl rfl rfl rfl ?_
  refine rx_aw.mono (cf_pr_0 (cf_pr_shelved (L := L) (t := t) (xs (i + 1)) (xs (i + 2)) S ls hi hl v R)) (fun r h2 k => ?_)
  obtain ⟨z, rfl, hi2, hl2, v2, rfl, k, E2⟩ := k
  refine ⟨z, rfl, ?_⟩
  refine rx_aw_s 5 (pc := 642) rfl ?_
  refine rx_w_iald (pc := 647) (n := L) rfl rfl rfl (by omega) ⟨i + 1, nI_add i 1, by omega, ?_⟩
  refine rx_aw_s 4 (pc := 648) rfl ?_
  refine rx_w_iald (pc := 652) (n := L) rfl rfl rfl (by omega) ⟨i + 2, nI_add i 2, by omega, ?_⟩
  show rx_aw 0 653 [.ref 0, .ref 1, .ref 90, .int (nI i)] [.int (hi2 0 (i + 2)), .int (hi2 0 (i + 1)), .ref 90, .int z] (rx_hp L t hi2 hl2 v2) (lw_F L)
  rw [E2 (i + 1), E (i + 1), E2 (i + 2), E (i + 2)]
  refine rx_w_callI (j := 220) (pc := 653) rfl rfl rfl rfl rfl ?_
  refine rx_aw.mono (cf_pr_0 k) (fun r h2 k => ?_)
  obtain ⟨z2, rfl, hi3, hl3, v3, rfl, ⟨ez, R3⟩, E3⟩ := k
  refine ⟨z2, rfl, ?_⟩
  refine rx_aw_s 1 (pc := 656) rfl ?_
  exact rx_w_if (c := z = z2) ⟨fun _ => go t hi3 hl3 v3 R3 (fun b => (E3 b).trans ((E2 b).trans (E b))), fun q => absurd ez.symm q⟩
set_option maxRecDepth 100000 in
theorem lw_about (hL : L ≤ 3074) (hi6 : i + 6 ≤ L) (R : cf_Rel t hi hl v) (E : ∀ b, hi 0 b = xs b) (go : ∀ t hi hl v, cf_Rel t hi hl v → (∀ b, hi 0 b = xs b) → rx_aw 0 1081 [.ref 0, .ref 1, .ref 90, .int (nI i)] [] (rx_hp L t hi hl v) (lw_F L)) : rx_aw 0 661 [.ref 0, .ref 1, .ref 90, .int (nI i)] [] (rx_hp L t hi hl v) (lw_F L) := by
  obtain ⟨S, ls, R⟩ := R
  refine rx_aw_s 5 (pc := 661) rfl ?_
  refine rx_w_iald (pc := 666) (n := L) rfl rfl rfl (by omega) ⟨i + 1, nI_add i 1, by omega, ?_⟩
  refine rx_aw_s 4 (pc := 667) rfl ?_
  refine rx_w_iald (pc := 671) (n := L) rfl rfl rfl (by omega) ⟨i + 2, nI_add i 2, by omega, ?_⟩
  show rx_aw 0 672 [.ref 0, .ref 1, .ref 90, .int (nI i)] [.int (hi 0 (i + 2)), .int (hi 0 (i + 1)), .ref 1] (rx_hp L t hi hl v) (lw_F L)
  rw [E (i + 1), E (i + 2)]
  refine rx_w_callI (j := 110) (pc := 672) rfl rfl rfl rfl rfl ?_
  refine rx_aw.mono (cf_pr_0 (cf_pr_about (L := L) (t := t) (xs (i + 1)) (xs (i + 2)) S ls hi hl v R)) (fun r h2 k => ?_)
  obtain ⟨z, rfl, hi2, hl2, v2, rfl, k, E2⟩ := k
  refine ⟨z, rfl, ?_⟩
  refine rx_aw_s 5 (pc := 675) rfl ?_
  refine rx_w_iald (pc := 680) (n := L) rfl rfl rfl (by omega) ⟨i + 1, nI_add i 1, by omega, ?_⟩
  refine rx_aw_s 4 (pc := 681) rfl ?_
  refine rx_w_iald (pc := 685) (n := L) rfl rfl rfl (by omega) ⟨i + 2, nI_add i 2, by omega, ?_⟩
  show rx_aw 0 686 [.ref 0, .ref 1, .ref 90, .int (nI i)] [.int (hi2 0 (i + 2)), .int (hi2 0 (i + 1)), .ref 90, .int z] (rx_hp L t hi2 hl2 v2) (lw_F L)
  rw [E2 (i + 1), E (i + 1), E2 (i + 2), E (i + 2)]
  refine rx_w_callI (j := 221) (pc := 686) rfl rfl rfl rfl rfl ?_
  refine rx_aw.mono (cf_pr_0 k) (fun r h2 k => ?_)
  obtain ⟨z2, rfl, hi3, hl3, v3, rfl, ⟨ez, R3⟩, E3⟩ := k
  refine ⟨z2, rfl, ?_⟩
  refine rx_aw_s 1 (pc := 689) rfl ?_
  exact rx_w_if (c := z = z2) ⟨fun _ => go t hi3 hl3 v3 R3 (fun b => (E3 b).trans ((E2 b).trans (E b))), fun q => absurd ez.symm q⟩
set_option maxRecDepth 100000 in
theorem lw_count (hL : L ≤ 3074) (hi6 : i + 6 ≤ L) (R : cf_Rel t hi hl v) (E : ∀ b, hi 0 b = xs b) (go : ∀ t hi hl v, cf_Rel t hi hl v → (∀ b, hi 0 b = xs b) → rx_aw 0 1081 [.ref 0, .ref 1, .ref 90, .int (nI i)] [] (rx_hp L t hi hl v) (lw_F L)) : rx_aw 0 694 [.ref 0, .ref 1, .ref 90, .int (nI i)] [] (rx_hp L t hi hl v) (lw_F L) := by
  obtain ⟨S, ls, R⟩ := R
  refine rx_aw_s 5 (pc := 694) rfl ?_
  refine rx_w_iald (pc := 699) (n := L) rfl rfl rfl (by omega) ⟨i + 1, nI_add i 1, by omega, ?_⟩
  show rx_aw 0 700 [.ref 0, .ref 1, .ref 90, .int (nI i)] [.int (hi 0 (i + 1)), .ref 1] (rx_hp L t hi hl v) (lw_F L)
  rw [E (i + 1)]
  refine rx_w_callI (j := 112) (pc := 700) rfl rfl rfl rfl rfl ?_
  refine rx_aw.mono (cf_pr_0 (cf_pr_count (L := L) (t := t) (xs (i + 1)) S ls hi hl v R)) (fun r h2 k => ?_)
  obtain ⟨z, rfl, hi2, hl2, v2, rfl, k, E2⟩ := k
  refine ⟨z, rfl, ?_⟩
  refine rx_aw_s 5 (pc := 703) rfl ?_
  refine rx_w_iald (pc := 708) (n := L) rfl rfl rfl (by omega) ⟨i + 1, nI_add i 1, by omega, ?_⟩
  show rx_aw 0 709 [.ref 0, .ref 1, .ref 90, .int (nI i)] [.int (hi2 0 (i + 1)), .ref 90, .int z] (rx_hp L t hi2 hl2 v2) (lw_F L)
  rw [E2 (i + 1), E (i + 1)]
  refine rx_w_callI (j := 223) (pc := 709) rfl rfl rfl rfl rfl ?_
  refine rx_aw.mono (cf_pr_0 k) (fun r h2 k => ?_)
  obtain ⟨z2, rfl, hi3, hl3, v3, rfl, ⟨ez, R3⟩, E3⟩ := k
  refine ⟨z2, rfl, ?_⟩
  refine rx_aw_s 1 (pc := 712) rfl ?_
  exact rx_w_if (c := z = z2) ⟨fun _ => go t hi3 hl3 v3 R3 (fun b => (E3 b).trans ((E2 b).trans (E b))), fun q => absurd ez.symm q⟩
set_option maxRecDepth 100000 in
theorem lw_digest (hL : L ≤ 3074) (hi6 : i + 6 ≤ L) (R : cf_Rel t hi hl v) (E : ∀ b, hi 0 b = xs b) (go : ∀ t hi hl v, cf_Rel t hi hl v → (∀ b, hi 0 b = xs b) → rx_aw 0 1081 [.ref 0, .ref 1, .ref 90, .int (nI i)] [] (rx_hp L t hi hl v) (lw_F L)) : rx_aw 0 717 [.ref 0, .ref 1, .ref 90, .int (nI i)] [] (rx_hp L t hi hl v) (lw_F L) := by
  obtain ⟨S, ls, R⟩ := R
  refine rx_aw_s 1 (pc := 717) rfl ?_
  refine rx_w_callL (j := 117) (pc := 718) rfl rfl rfl rfl rfl ?_
  refine rx_aw.mono (rx_aw_row0 (by show ¬ 0 = (rx_sh L t).length; unfold rx_sh; simp) (cf_pr_digest (L := L) (t := t) S ls hi hl v R)) (fun r h2 k => ?_)
  obtain ⟨⟨z, rfl, hi2, hl2, v2, rfl, k⟩, E2⟩ := k
  have E2 : ∀ b, hi2 0 b = hi 0 b := fun b => congrFun E2 b
  refine ⟨z, rfl, ?_⟩
  refine rx_aw_s 1 (pc := 721) rfl ?_
  refine rx_w_callL (j := 224) (pc := 722) rfl rfl rfl rfl rfl ?_
  refine rx_aw.mono (rx_aw_row0 (by show ¬ 0 = (rx_sh L t).length; unfold rx_sh; simp) k) (fun r h2 k => ?_)
  obtain ⟨⟨z2, rfl, hi3, hl3, v3, rfl, ez, R3⟩, E3⟩ := k
  have E3 : ∀ b, hi3 0 b = hi2 0 b := fun b => congrFun E3 b
  refine ⟨z2, rfl, ?_⟩
  refine rx_aw_s 2 (pc := 725) rfl ?_
  exact rx_w_if (c := lg_cmp z z2 = 0) ⟨fun _ => go t hi3 hl3 v3 R3 (fun b => (E3 b).trans ((E2 b).trans (E b))), fun q => absurd (cf_cmp0.mpr ez.symm) q⟩
set_option maxRecDepth 100000 in
theorem lw_safe (hL : L ≤ 3074) (hi6 : i + 6 ≤ L) (R : cf_Rel t hi hl v) (E : ∀ b, hi 0 b = xs b) (go : ∀ t hi hl v, cf_Rel t hi hl v → (∀ b, hi 0 b = xs b) → rx_aw 0 1081 [.ref 0, .ref 1, .ref 90, .int (nI i)] [] (rx_hp L t hi hl v) (lw_F L)) : rx_aw 0 731 [.ref 0, .ref 1, .ref 90, .int (nI i)] [] (rx_hp L t hi hl v) (lw_F L) := by
  obtain ⟨S, ls, R⟩ := R
  refine rx_aw_s 1 (pc := 731) rfl ?_
  show rx_aw 0 732 [.ref 0, .ref 1, .ref 90, .int (nI i)] [.ref 1] (rx_hp L t hi hl v) (lw_F L)
  refine rx_w_callI (j := 118) (pc := 732) rfl rfl rfl rfl rfl ?_
  refine rx_aw.mono (cf_pr_0 (cf_pr_safe (L := L) (t := t)  S ls hi hl v R)) (fun r h2 k => ?_)
  obtain ⟨z, rfl, hi2, hl2, v2, rfl, k, E2⟩ := k
  refine ⟨z, rfl, ?_⟩
  refine rx_aw_s 1 (pc := 735) rfl ?_
  show rx_aw 0 736 [.ref 0, .ref 1, .ref 90, .int (nI i)] [.ref 90, .int z] (rx_hp L t hi2 hl2 v2) (lw_F L)
  refine rx_w_callI (j := 225) (pc := 736) rfl rfl rfl rfl rfl ?_
  refine rx_aw.mono (cf_pr_0 k) (fun r h2 k => ?_)
  obtain ⟨z2, rfl, hi3, hl3, v3, rfl, ⟨ez, R3⟩, E3⟩ := k
  refine ⟨z2, rfl, ?_⟩
  refine rx_aw_s 1 (pc := 739) rfl ?_
  exact rx_w_if (c := z = z2) ⟨fun _ => go t hi3 hl3 v3 R3 (fun b => (E3 b).trans ((E2 b).trans (E b))), fun q => absurd ez.symm q⟩
set_option maxRecDepth 100000 in
theorem lw_few (hL : L ≤ 3074) (hi6 : i + 6 ≤ L) (R : cf_Rel t hi hl v) (E : ∀ b, hi 0 b = xs b) (go : ∀ t hi hl v, cf_Rel t hi hl v → (∀ b, hi 0 b = xs b) → rx_aw 0 1081 [.ref 0, .ref 1, .ref 90, .int (nI i)] [] (rx_hp L t hi hl v) (lw_F L)) : rx_aw 0 744 [.ref 0, .ref 1, .ref 90, .int (nI i)] [] (rx_hp L t hi hl v) (lw_F L) := by
  obtain ⟨S, ls, R⟩ := R
  refine rx_aw_s 5 (pc := 744) rfl ?_
  refine rx_w_iald (pc := 749) (n := L) rfl rfl rfl (by omega) ⟨i + 1, nI_add i 1, by omega, ?_⟩
  refine rx_aw_s 4 (pc := 750) rfl ?_
  refine rx_w_iald (pc := 754) (n := L) rfl rfl rfl (by omega) ⟨i + 2, nI_add i 2, by omega, ?_⟩
  refine rx_aw_s 4 (pc := 755) rfl ?_
  refine rx_w_iald (pc := 759) (n := L) rfl rfl rfl (by omega) ⟨i + 3, nI_add i 3, by omega, ?_⟩
  show rx_aw 0 760 [.ref 0, .ref 1, .ref 90, .int (nI i)] [.int (hi 0 (i + 3)), .int (hi 0 (i + 2)), .int (hi 0 (i + 1)), .ref 1] (rx_hp L t hi hl v) (lw_F L)
  rw [E (i + 1), E (i + 2), E (i + 3)]
  refine rx_w_callI (j := 121) (pc := 760) rfl rfl rfl rfl rfl ?_
  refine rx_aw.mono (rx_aw_row0 (by show ¬ 0 = (rx_sh L t).length; unfold rx_sh; simp) (cf_pr_few (L := L) (t := t) (xs (i + 1)) (xs (i + 2)) (xs (i + 3)) S ls hi hl v R)) (fun r h2 k => ?_)
  obtain ⟨⟨z, t2, rfl, hi2, hl2, v2, rfl, k⟩, E2⟩ := k
  have E2 : ∀ b, hi2 0 b = hi 0 b := fun b => congrFun E2 b
  clear R
  refine ⟨z, rfl, ?_⟩
  refine rx_aw_s 5 (pc := 763) rfl ?_
  refine rx_w_iald (pc := 768) (n := L) rfl rfl rfl (by omega) ⟨i + 1, nI_add i 1, by omega, ?_⟩
  refine rx_aw_s 4 (pc := 769) rfl ?_
  refine rx_w_iald (pc := 773) (n := L) rfl rfl rfl (by omega) ⟨i + 2, nI_add i 2, by omega, ?_⟩
  refine rx_aw_s 4 (pc := 774) rfl ?_
  refine rx_w_iald (pc := 778) (n := L) rfl rfl rfl (by omega) ⟨i + 3, nI_add i 3, by omega, ?_⟩
  show rx_aw 0 779 [.ref 0, .ref 1, .ref 90, .int (nI i)] [.int (hi2 0 (i + 3)), .int (hi2 0 (i + 2)), .int (hi2 0 (i + 1)), .ref 90, .int z] (rx_hp L t2 hi2 hl2 v2) (lw_F L)
  rw [E2 (i + 1), E (i + 1), E2 (i + 2), E (i + 2), E2 (i + 3), E (i + 3)]
  refine rx_w_callI (j := 228) (pc := 779) rfl rfl rfl rfl rfl ?_
  refine rx_aw.mono (cf_pr_0 k) (fun r h2 k => ?_)
  obtain ⟨z2, rfl, hi3, hl3, v3, rfl, ⟨ez, R3⟩, E3⟩ := k
  refine ⟨z2, rfl, ?_⟩
  refine rx_aw_s 1 (pc := 782) rfl ?_
  exact rx_w_if (c := z = z2) ⟨fun _ => go t2 hi3 hl3 v3 R3 (fun b => (E3 b).trans ((E2 b).trans (E b))), fun q => absurd ez.symm q⟩
set_option maxRecDepth 100000 in
theorem lw_hang (hL : L ≤ 3074) (hi6 : i + 6 ≤ L) (R : cf_Rel t hi hl v) (E : ∀ b, hi 0 b = xs b) (go : ∀ t hi hl v, cf_Rel t hi hl v → (∀ b, hi 0 b = xs b) → rx_aw 0 1081 [.ref 0, .ref 1, .ref 90, .int (nI i)] [] (rx_hp L t hi hl v) (lw_F L)) : rx_aw 0 787 [.ref 0, .ref 1, .ref 90, .int (nI i)] [] (rx_hp L t hi hl v) (lw_F L) := by
  obtain ⟨S, ls, R⟩ := R
  refine rx_aw_s 5 (pc := 787) rfl ?_
  refine rx_w_iald (pc := 792) (n := L) rfl rfl rfl (by omega) ⟨i + 1, nI_add i 1, by omega, ?_⟩
  refine rx_aw_s 4 (pc := 793) rfl ?_
  refine rx_w_iald (pc := 797) (n := L) rfl rfl rfl (by omega) ⟨i + 2, nI_add i 2, by omega, ?_⟩
  refine rx_aw_s 4 (pc := 798) rfl ?_
  refine rx_w_iald (pc := 802) (n := L) rfl rfl rfl (by omega) ⟨i + 3, nI_add i 3, by omega, ?_⟩
  show rx_aw 0 803 [.ref 0, .ref 1, .ref 90, .int (nI i)] [.int (hi 0 (i + 3)), .int (hi 0 (i + 2)), .int (hi 0 (i + 1)), .ref 1] (rx_hp L t hi hl v) (lw_F L)
  rw [E (i + 1), E (i + 2), E (i + 3)]
  refine rx_w_callI (j := 142) (pc := 803) rfl rfl rfl rfl rfl ?_
  refine rx_aw.mono (cf_pr_0 (cf_pr_hang (L := L) (t := t) (xs (i + 1)) (xs (i + 2)) (xs (i + 3)) S ls hi hl v R)) (fun r h2 k => ?_)
  obtain ⟨z, rfl, hi2, hl2, v2, rfl, k, E2⟩ := k
  refine ⟨z, rfl, ?_⟩
  refine rx_aw_s 5 (pc := 806) rfl ?_
  refine rx_w_iald (pc := 811) (n := L) rfl rfl rfl (by omega) ⟨i + 1, nI_add i 1, by omega, ?_⟩
  refine rx_aw_s 4 (pc := 812) rfl ?_
  refine rx_w_iald (pc := 816) (n := L) rfl rfl rfl (by omega) ⟨i + 2, nI_add i 2, by omega, ?_⟩
  refine rx_aw_s 4 (pc := 817) rfl ?_
  refine rx_w_iald (pc := 821) (n := L) rfl rfl rfl (by omega) ⟨i + 3, nI_add i 3, by omega, ?_⟩
  show rx_aw 0 822 [.ref 0, .ref 1, .ref 90, .int (nI i)] [.int (hi2 0 (i + 3)), .int (hi2 0 (i + 2)), .int (hi2 0 (i + 1)), .ref 90, .int z] (rx_hp L t hi2 hl2 v2) (lw_F L)
  rw [E2 (i + 1), E (i + 1), E2 (i + 2), E (i + 2), E2 (i + 3), E (i + 3)]
  refine rx_w_callI (j := 238) (pc := 822) rfl rfl rfl rfl rfl ?_
  refine rx_aw.mono (cf_pr_0 k) (fun r h2 k => ?_)
  obtain ⟨z2, rfl, hi3, hl3, v3, rfl, ⟨ez, R3⟩, E3⟩ := k
  refine ⟨z2, rfl, ?_⟩
  refine rx_aw_s 1 (pc := 825) rfl ?_
  exact rx_w_if (c := z = z2) ⟨fun _ => go t hi3 hl3 v3 R3 (fun b => (E3 b).trans ((E2 b).trans (E b))), fun q => absurd ez.symm q⟩
set_option maxRecDepth 100000 in
theorem lw_take (hL : L ≤ 3074) (hi6 : i + 6 ≤ L) (R : cf_Rel t hi hl v) (E : ∀ b, hi 0 b = xs b) (go : ∀ t hi hl v, cf_Rel t hi hl v → (∀ b, hi 0 b = xs b) → rx_aw 0 1081 [.ref 0, .ref 1, .ref 90, .int (nI i)] [] (rx_hp L t hi hl v) (lw_F L)) : rx_aw 0 830 [.ref 0, .ref 1, .ref 90, .int (nI i)] [] (rx_hp L t hi hl v) (lw_F L) := by
  obtain ⟨S, ls, R⟩ := R
  refine rx_aw_s 5 (pc := 830) rfl ?_
  refine rx_w_iald (pc := 835) (n := L) rfl rfl rfl (by omega) ⟨i + 1, nI_add i 1, by omega, ?_⟩
  refine rx_aw_s 4 (pc := 836) rfl ?_
  refine rx_w_iald (pc := 840) (n := L) rfl rfl rfl (by omega) ⟨i + 2, nI_add i 2, by omega, ?_⟩
  show rx_aw 0 841 [.ref 0, .ref 1, .ref 90, .int (nI i)] [.int (hi 0 (i + 2)), .int (hi 0 (i + 1)), .ref 1] (rx_hp L t hi hl v) (lw_F L)
  rw [E (i + 1), E (i + 2)]
  refine rx_w_callI (j := 145) (pc := 841) rfl rfl rfl rfl rfl ?_
  refine rx_aw.mono (cf_pr_0 (cf_pr_take (L := L) (t := t) (xs (i + 1)) (xs (i + 2)) S ls hi hl v R)) (fun r h2 k => ?_)
  obtain ⟨z, rfl, hi2, hl2, v2, rfl, k, E2⟩ := k
  refine ⟨z, rfl, ?_⟩
  refine rx_aw_s 5 (pc := 844) rfl ?_
  refine rx_w_iald (pc := 849) (n := L) rfl rfl rfl (by omega) ⟨i + 1, nI_add i 1, by omega, ?_⟩
  refine rx_aw_s 4 (pc := 850) rfl ?_
  refine rx_w_iald (pc := 854) (n := L) rfl rfl rfl (by omega) ⟨i + 2, nI_add i 2, by omega, ?_⟩
  show rx_aw 0 855 [.ref 0, .ref 1, .ref 90, .int (nI i)] [.int (hi2 0 (i + 2)), .int (hi2 0 (i + 1)), .ref 90, .int z] (rx_hp L t hi2 hl2 v2) (lw_F L)
  rw [E2 (i + 1), E (i + 1), E2 (i + 2), E (i + 2)]
  refine rx_w_callI (j := 239) (pc := 855) rfl rfl rfl rfl rfl ?_
  refine rx_aw.mono (cf_pr_0 k) (fun r h2 k => ?_)
  obtain ⟨z2, rfl, hi3, hl3, v3, rfl, ⟨ez, R3⟩, E3⟩ := k
  refine ⟨z2, rfl, ?_⟩
  refine rx_aw_s 1 (pc := 858) rfl ?_
  exact rx_w_if (c := z = z2) ⟨fun _ => go t hi3 hl3 v3 R3 (fun b => (E3 b).trans ((E2 b).trans (E b))), fun q => absurd ez.symm q⟩
set_option maxRecDepth 100000 in
theorem lw_weight (hL : L ≤ 3074) (hi6 : i + 6 ≤ L) (R : cf_Rel t hi hl v) (E : ∀ b, hi 0 b = xs b) (go : ∀ t hi hl v, cf_Rel t hi hl v → (∀ b, hi 0 b = xs b) → rx_aw 0 1081 [.ref 0, .ref 1, .ref 90, .int (nI i)] [] (rx_hp L t hi hl v) (lw_F L)) : rx_aw 0 863 [.ref 0, .ref 1, .ref 90, .int (nI i)] [] (rx_hp L t hi hl v) (lw_F L) := by
  obtain ⟨S, ls, R⟩ := R
  refine rx_aw_s 5 (pc := 863) rfl ?_
  refine rx_w_iald (pc := 868) (n := L) rfl rfl rfl (by omega) ⟨i + 1, nI_add i 1, by omega, ?_⟩
  show rx_aw 0 869 [.ref 0, .ref 1, .ref 90, .int (nI i)] [.int (hi 0 (i + 1)), .ref 1] (rx_hp L t hi hl v) (lw_F L)
  rw [E (i + 1)]
  refine rx_w_callI (j := 146) (pc := 869) rfl rfl rfl rfl rfl ?_
  refine rx_aw.mono (cf_pr_0 (cf_pr_weight (L := L) (t := t) (xs (i + 1)) S ls hi hl v R)) (fun r h2 k => ?_)
  obtain ⟨z, rfl, hi2, hl2, v2, rfl, k, E2⟩ := k
  refine ⟨z, rfl, ?_⟩
  refine rx_aw_s 5 (pc := 872) rfl ?_
  refine rx_w_iald (pc := 877) (n := L) rfl rfl rfl (by omega) ⟨i + 1, nI_add i 1, by omega, ?_⟩
  show rx_aw 0 878 [.ref 0, .ref 1, .ref 90, .int (nI i)] [.int (hi2 0 (i + 1)), .ref 90, .int z] (rx_hp L t hi2 hl2 v2) (lw_F L)
  rw [E2 (i + 1), E (i + 1)]
  refine rx_w_callI (j := 240) (pc := 878) rfl rfl rfl rfl rfl ?_
  refine rx_aw.mono (cf_pr_0 k) (fun r h2 k => ?_)
  obtain ⟨z2, rfl, hi3, hl3, v3, rfl, ⟨ez, R3⟩, E3⟩ := k
  refine ⟨z2, rfl, ?_⟩
  refine rx_aw_s 1 (pc := 881) rfl ?_
  exact rx_w_if (c := z = z2) ⟨fun _ => go t hi3 hl3 v3 R3 (fun b => (E3 b).trans ((E2 b).trans (E b))), fun q => absurd ez.symm q⟩
set_option maxRecDepth 100000 in
theorem lw_mark (hL : L ≤ 3074) (hi6 : i + 6 ≤ L) (R : cf_Rel t hi hl v) (E : ∀ b, hi 0 b = xs b) (go : ∀ t hi hl v, cf_Rel t hi hl v → (∀ b, hi 0 b = xs b) → rx_aw 0 1081 [.ref 0, .ref 1, .ref 90, .int (nI i)] [] (rx_hp L t hi hl v) (lw_F L)) : rx_aw 0 886 [.ref 0, .ref 1, .ref 90, .int (nI i)] [] (rx_hp L t hi hl v) (lw_F L) := by
  obtain ⟨S, ls, R⟩ := R
  refine rx_aw_s 5 (pc := 886) rfl ?_
  refine rx_w_iald (pc := 891) (n := L) rfl rfl rfl (by omega) ⟨i + 1, nI_add i 1, by omega, ?_⟩
  refine rx_aw_s 4 (pc := 892) rfl ?_
  refine rx_w_iald (pc := 896) (n := L) rfl rfl rfl (by omega) ⟨i + 2, nI_add i 2, by omega, ?_⟩
  refine rx_aw_s 4 (pc := 897) rfl ?_
  refine rx_w_iald (pc := 901) (n := L) rfl rfl rfl (by omega) ⟨i + 3, nI_add i 3, by omega, ?_⟩
  show rx_aw 0 902 [.ref 0, .ref 1, .ref 90, .int (nI i)] [.int (hi 0 (i + 3)), .int (hi 0 (i + 2)), .int (hi 0 (i + 1)), .ref 1] (rx_hp L t hi hl v) (lw_F L)
  rw [E (i + 1), E (i + 2), E (i + 3)]
  refine rx_w_callI (j := 148) (pc := 902) rfl rfl rfl rfl rfl ?_
  refine rx_aw.mono (cf_pr_0 (cf_pr_mark (L := L) (t := t) (xs (i + 1)) (xs (i + 2)) (xs (i + 3)) S ls hi hl v R)) (fun r h2 k => ?_)
  obtain ⟨z, rfl, hi2, hl2, v2, rfl, k, E2⟩ := k
  refine ⟨z, rfl, ?_⟩
  refine rx_aw_s 5 (pc := 905) rfl ?_
  refine rx_w_iald (pc := 910) (n := L) rfl rfl rfl (by omega) ⟨i + 1, nI_add i 1, by omega, ?_⟩
  refine rx_aw_s 4 (pc := 911) rfl ?_
  refine rx_w_iald (pc := 915) (n := L) rfl rfl rfl (by omega) ⟨i + 2, nI_add i 2, by omega, ?_⟩
  refine rx_aw_s 4 (pc := 916) rfl ?_
  refine rx_w_iald (pc := 920) (n := L) rfl rfl rfl (by omega) ⟨i + 3, nI_add i 3, by omega, ?_⟩
  show rx_aw 0 921 [.ref 0, .ref 1, .ref 90, .int (nI i)] [.int (hi2 0 (i + 3)), .int (hi2 0 (i + 2)), .int (hi2 0 (i + 1)), .ref 90, .int z] (rx_hp L t hi2 hl2 v2) (lw_F L)
  rw [E2 (i + 1), E (i + 1), E2 (i + 2), E (i + 2), E2 (i + 3), E (i + 3)]
  refine rx_w_callI (j := 241) (pc := 921) rfl rfl rfl rfl rfl ?_
  refine rx_aw.mono (cf_pr_0 k) (fun r h2 k => ?_)
  obtain ⟨z2, rfl, hi3, hl3, v3, rfl, ⟨ez, R3⟩, E3⟩ := k
  refine ⟨z2, rfl, ?_⟩
  refine rx_aw_s 1 (pc := 924) rfl ?_
  exact rx_w_if (c := z = z2) ⟨fun _ => go t hi3 hl3 v3 R3 (fun b => (E3 b).trans ((E2 b).trans (E b))), fun q => absurd ez.symm q⟩
set_option maxRecDepth 100000 in
theorem lw_copy (hL : L ≤ 3074) (hi6 : i + 6 ≤ L) (R : cf_Rel t hi hl v) (E : ∀ b, hi 0 b = xs b) (go : ∀ t hi hl v, cf_Rel t hi hl v → (∀ b, hi 0 b = xs b) → rx_aw 0 1081 [.ref 0, .ref 1, .ref 90, .int (nI i)] [] (rx_hp L t hi hl v) (lw_F L)) : rx_aw 0 929 [.ref 0, .ref 1, .ref 90, .int (nI i)] [] (rx_hp L t hi hl v) (lw_F L) := by
  obtain ⟨S, ls, R⟩ := R
  refine rx_aw_s 5 (pc := 929) rfl ?_
  refine rx_w_iald (pc := 934) (n := L) rfl rfl rfl (by omega) ⟨i + 1, nI_add i 1, by omega, ?_⟩
  refine rx_aw_s 4 (pc := 935) rfl ?_
  refine rx_w_iald (pc := 939) (n := L) rfl rfl rfl (by omega) ⟨i + 2, nI_add i 2, by omega, ?_⟩
  refine rx_aw_s 4 (pc := 940) rfl ?_
  refine rx_w_iald (pc := 944) (n := L) rfl rfl rfl (by omega) ⟨i + 3, nI_add i 3, by omega, ?_⟩
  refine rx_aw_s 4 (pc := 945) rfl ?_
  refine rx_w_iald (pc := 949) (n := L) rfl rfl rfl (by omega) ⟨i + 4, nI_add i 4, by omega, ?_⟩
  refine rx_aw_s 4 (pc := 950) rfl ?_
  refine rx_w_iald (pc := 954) (n := L) rfl rfl rfl (by omega) ⟨i + 5, nI_add i 5, by omega, ?_⟩
  show rx_aw 0 955 [.ref 0, .ref 1, .ref 90, .int (nI i)] [.int (hi 0 (i + 5)), .int (hi 0 (i + 4)), .int (hi 0 (i + 3)), .int (hi 0 (i + 2)), .int (hi 0 (i + 1)), .ref 1] (rx_hp L t hi hl v) (lw_F L)
  rw [E (i + 1), E (i + 2), E (i + 3), E (i + 4), E (i + 5)]
  refine rx_w_callI (j := 149) (pc := 955) rfl rfl rfl rfl rfl ?_
  refine rx_aw.mono (cf_pr_0 (cf_pr_copy (L := L) (t := t) (xs (i + 1)) (xs (i + 2)) (xs (i + 3)) (xs (i + 4)) (xs (i + 5)) S ls hi hl v R)) (fun r h2 k => ?_)
  obtain ⟨z, rfl, hi2, hl2, v2, rfl, k, E2⟩ := k
  refine ⟨z, rfl, ?_⟩
  refine rx_aw_s 5 (pc := 958) rfl ?_
  refine rx_w_iald (pc := 963) (n := L) rfl rfl rfl (by omega) ⟨i + 1, nI_add i 1, by omega, ?_⟩
  refine rx_aw_s 4 (pc := 964) rfl ?_
  refine rx_w_iald (pc := 968) (n := L) rfl rfl rfl (by omega) ⟨i + 2, nI_add i 2, by omega, ?_⟩
  refine rx_aw_s 4 (pc := 969) rfl ?_
  refine rx_w_iald (pc := 973) (n := L) rfl rfl rfl (by omega) ⟨i + 3, nI_add i 3, by omega, ?_⟩
  refine rx_aw_s 4 (pc := 974) rfl ?_
  refine rx_w_iald (pc := 978) (n := L) rfl rfl rfl (by omega) ⟨i + 4, nI_add i 4, by omega, ?_⟩
  refine rx_aw_s 4 (pc := 979) rfl ?_
  refine rx_w_iald (pc := 983) (n := L) rfl rfl rfl (by omega) ⟨i + 5, nI_add i 5, by omega, ?_⟩
  show rx_aw 0 984 [.ref 0, .ref 1, .ref 90, .int (nI i)] [.int (hi2 0 (i + 5)), .int (hi2 0 (i + 4)), .int (hi2 0 (i + 3)), .int (hi2 0 (i + 2)), .int (hi2 0 (i + 1)), .ref 90, .int z] (rx_hp L t hi2 hl2 v2) (lw_F L)
  rw [E2 (i + 1), E (i + 1), E2 (i + 2), E (i + 2), E2 (i + 3), E (i + 3), E2 (i + 4), E (i + 4), E2 (i + 5), E (i + 5)]
  refine rx_w_callI (j := 242) (pc := 984) rfl rfl rfl rfl rfl ?_
  refine rx_aw.mono (cf_pr_0 k) (fun r h2 k => ?_)
  obtain ⟨z2, rfl, hi3, hl3, v3, rfl, ⟨ez, R3⟩, E3⟩ := k
  refine ⟨z2, rfl, ?_⟩
  refine rx_aw_s 1 (pc := 987) rfl ?_
  exact rx_w_if (c := z = z2) ⟨fun _ => go t hi3 hl3 v3 R3 (fun b => (E3 b).trans ((E2 b).trans (E b))), fun q => absurd ez.symm q⟩
set_option maxRecDepth 100000 in
theorem lw_line (hL : L ≤ 3074) (hi6 : i + 6 ≤ L) (R : cf_Rel t hi hl v) (E : ∀ b, hi 0 b = xs b) (go : ∀ t hi hl v, cf_Rel t hi hl v → (∀ b, hi 0 b = xs b) → rx_aw 0 1081 [.ref 0, .ref 1, .ref 90, .int (nI i)] [] (rx_hp L t hi hl v) (lw_F L)) : rx_aw 0 992 [.ref 0, .ref 1, .ref 90, .int (nI i)] [] (rx_hp L t hi hl v) (lw_F L) := by
  obtain ⟨S, ls, R⟩ := R
  refine rx_aw_s 5 (pc := 992) rfl ?_
  refine rx_w_iald (pc := 997) (n := L) rfl rfl rfl (by omega) ⟨i + 1, nI_add i 1, by omega, ?_⟩
  refine rx_aw_s 4 (pc := 998) rfl ?_
  refine rx_w_iald (pc := 1002) (n := L) rfl rfl rfl (by omega) ⟨i + 2, nI_add i 2, by omega, ?_⟩
  show rx_aw 0 1003 [.ref 0, .ref 1, .ref 90, .int (nI i)] [.int (hi 0 (i + 2)), .int (hi 0 (i + 1)), .ref 1] (rx_hp L t hi hl v) (lw_F L)
  rw [E (i + 1), E (i + 2)]
  refine rx_w_callI (j := 152) (pc := 1003) rfl rfl rfl rfl rfl ?_
  refine rx_aw.mono (cf_pr_0 (cf_pr_line (L := L) (t := t) (xs (i + 1)) (xs (i + 2)) S ls hi hl v R)) (fun r h2 k => ?_)
  obtain ⟨z, rfl, hi2, hl2, v2, rfl, k, E2⟩ := k
  refine ⟨z, rfl, ?_⟩
  refine rx_aw_s 5 (pc := 1006) rfl ?_
  refine rx_w_iald (pc := 1011) (n := L) rfl rfl rfl (by omega) ⟨i + 1, nI_add i 1, by omega, ?_⟩
  refine rx_aw_s 4 (pc := 1012) rfl ?_
  refine rx_w_iald (pc := 1016) (n := L) rfl rfl rfl (by omega) ⟨i + 2, nI_add i 2, by omega, ?_⟩
  show rx_aw 0 1017 [.ref 0, .ref 1, .ref 90, .int (nI i)] [.int (hi2 0 (i + 2)), .int (hi2 0 (i + 1)), .ref 90, .int z] (rx_hp L t hi2 hl2 v2) (lw_F L)
  rw [E2 (i + 1), E (i + 1), E2 (i + 2), E (i + 2)]
  refine rx_w_callI (j := 243) (pc := 1017) rfl rfl rfl rfl rfl ?_
  refine rx_aw.mono (cf_pr_0 k) (fun r h2 k => ?_)
  obtain ⟨z2, rfl, hi3, hl3, v3, rfl, ⟨ez, R3⟩, E3⟩ := k
  refine ⟨z2, rfl, ?_⟩
  refine rx_aw_s 1 (pc := 1020) rfl ?_
  exact rx_w_if (c := z = z2) ⟨fun _ => go t hi3 hl3 v3 R3 (fun b => (E3 b).trans ((E2 b).trans (E b))), fun q => absurd ez.symm q⟩
set_option maxRecDepth 100000 in
theorem lw_slot (hL : L ≤ 3074) (hi6 : i + 6 ≤ L) (R : cf_Rel t hi hl v) (E : ∀ b, hi 0 b = xs b) (go : ∀ t hi hl v, cf_Rel t hi hl v → (∀ b, hi 0 b = xs b) → rx_aw 0 1081 [.ref 0, .ref 1, .ref 90, .int (nI i)] [] (rx_hp L t hi hl v) (lw_F L)) : rx_aw 0 1025 [.ref 0, .ref 1, .ref 90, .int (nI i)] [] (rx_hp L t hi hl v) (lw_F L) := by
  obtain ⟨S, ls, R⟩ := R
  refine rx_aw_s 5 (pc := 1025) rfl ?_
  refine rx_w_iald (pc := 1030) (n := L) rfl rfl rfl (by omega) ⟨i + 1, nI_add i 1, by omega, ?_⟩
  refine rx_aw_s 4 (pc := 1031) rfl ?_
  refine rx_w_iald (pc := 1035) (n := L) rfl rfl rfl (by omega) ⟨i + 2, nI_add i 2, by omega, ?_⟩
  show rx_aw 0 1036 [.ref 0, .ref 1, .ref 90, .int (nI i)] [.int (hi 0 (i + 2)), .int (hi 0 (i + 1)), .ref 1] (rx_hp L t hi hl v) (lw_F L)
  rw [E (i + 1), E (i + 2)]
  refine rx_w_callI (j := 154) (pc := 1036) rfl rfl rfl rfl rfl ?_
  refine rx_aw.mono (cf_pr_0 (cf_pr_slot (L := L) (t := t) (xs (i + 1)) (xs (i + 2)) S ls hi hl v R)) (fun r h2 k => ?_)
  obtain ⟨z, rfl, hi2, hl2, v2, rfl, k, E2⟩ := k
  refine ⟨z, rfl, ?_⟩
  refine rx_aw_s 5 (pc := 1039) rfl ?_
  refine rx_w_iald (pc := 1044) (n := L) rfl rfl rfl (by omega) ⟨i + 1, nI_add i 1, by omega, ?_⟩
  refine rx_aw_s 4 (pc := 1045) rfl ?_
  refine rx_w_iald (pc := 1049) (n := L) rfl rfl rfl (by omega) ⟨i + 2, nI_add i 2, by omega, ?_⟩
  show rx_aw 0 1050 [.ref 0, .ref 1, .ref 90, .int (nI i)] [.int (hi2 0 (i + 2)), .int (hi2 0 (i + 1)), .ref 90, .int z] (rx_hp L t hi2 hl2 v2) (lw_F L)
  rw [E2 (i + 1), E (i + 1), E2 (i + 2), E (i + 2)]
  refine rx_w_callI (j := 244) (pc := 1050) rfl rfl rfl rfl rfl ?_
  refine rx_aw.mono (cf_pr_0 k) (fun r h2 k => ?_)
  obtain ⟨z2, rfl, hi3, hl3, v3, rfl, ⟨ez, R3⟩, E3⟩ := k
  refine ⟨z2, rfl, ?_⟩
  refine rx_aw_s 1 (pc := 1053) rfl ?_
  exact rx_w_if (c := z = z2) ⟨fun _ => go t hi3 hl3 v3 R3 (fun b => (E3 b).trans ((E2 b).trans (E b))), fun q => absurd ez.symm q⟩
set_option maxRecDepth 100000 in
theorem lw_mean (hL : L ≤ 3074) (hi6 : i + 6 ≤ L) (R : cf_Rel t hi hl v) (E : ∀ b, hi 0 b = xs b) (go : ∀ t hi hl v, cf_Rel t hi hl v → (∀ b, hi 0 b = xs b) → rx_aw 0 1081 [.ref 0, .ref 1, .ref 90, .int (nI i)] [] (rx_hp L t hi hl v) (lw_F L)) : rx_aw 0 1058 [.ref 0, .ref 1, .ref 90, .int (nI i)] [] (rx_hp L t hi hl v) (lw_F L) := by
  obtain ⟨S, ls, R⟩ := R
  refine rx_aw_s 5 (pc := 1058) rfl ?_
  refine rx_w_iald (pc := 1063) (n := L) rfl rfl rfl (by omega) ⟨i + 1, nI_add i 1, by omega, ?_⟩
  show rx_aw 0 1064 [.ref 0, .ref 1, .ref 90, .int (nI i)] [.int (hi 0 (i + 1)), .ref 1] (rx_hp L t hi hl v) (lw_F L)
  rw [E (i + 1)]
  refine rx_w_callI (j := 156) (pc := 1064) rfl rfl rfl rfl rfl ?_
  refine rx_aw.mono (cf_pr_0 (cf_pr_mean (L := L) (t := t) (xs (i + 1)) S ls hi hl v R)) (fun r h2 k => ?_)
  obtain ⟨z, rfl, hi2, hl2, v2, rfl, k, E2⟩ := k
  refine ⟨z, rfl, ?_⟩
  refine rx_aw_s 5 (pc := 1067) rfl ?_
  refine rx_w_iald (pc := 1072) (n := L) rfl rfl rfl (by omega) ⟨i + 1, nI_add i 1, by omega, ?_⟩
  show rx_aw 0 1073 [.ref 0, .ref 1, .ref 90, .int (nI i)] [.int (hi2 0 (i + 1)), .ref 90, .int z] (rx_hp L t hi2 hl2 v2) (lw_F L)
  rw [E2 (i + 1), E (i + 1)]
  refine rx_w_callI (j := 245) (pc := 1073) rfl rfl rfl rfl rfl ?_
  refine rx_aw.mono (cf_pr_0 k) (fun r h2 k => ?_)
  obtain ⟨z2, rfl, hi3, hl3, v3, rfl, ⟨ez, R3⟩, E3⟩ := k
  refine ⟨z2, rfl, ?_⟩
  refine rx_aw_s 1 (pc := 1076) rfl ?_
  exact rx_w_if (c := z = z2) ⟨fun _ => go t hi3 hl3 v3 R3 (fun b => (E3 b).trans ((E2 b).trans (E b))), fun q => absurd ez.symm q⟩
end RXL
