/-! The law: the loop. -/
theorem lw_bits (y : Int32) : ∃ n, n < 32 ∧ y &&& 31 = nI n := by
  have e : y = nI y.toBitVec.toNat := by
    apply Int32.toBitVec_inj.mp
    rw [cf_nbv, BitVec.ofNat_toNat, BitVec.setWidth_eq]
  refine ⟨y.toBitVec.toNat % 32, Nat.mod_lt _ (by decide), ?_⟩
  have e2 : nI y.toBitVec.toNat &&& 31 = nI (y.toBitVec.toNat % 32) := by
    rw [show (31 : Int32) = nI 31 from rfl, cf_nand]
    congr 1
    exact Nat.and_two_pow_sub_one_eq_mod _ 5
  rw [← e2, ← e]
theorem lw_end {L : Nat} {t : List (Nat × Nat)} {hi : Nat → Nat → Int32} {hl : Nat → Nat → Int64} {v : Nat → Nat → Option Nat} (R : cf_Rel t hi hl v) : lw_F L (some (.int 1)) (rx_hp L t hi hl v) := by
  obtain ⟨S, ls, R⟩ := R
  have key : (rx_sh L t).length ≤ 600001 ∧ ((rx_sh L t).map fun q => q.2).sum ≤ 7302250 + L := by
    rcases R.2.2.2.2.2.2.2.2 with ⟨e, _⟩ | ⟨e, _⟩
    · subst e
      have a : (rx_s1 ++ []).length = 133 := by decide +kernel
      have b : ((rx_s1 ++ []).map fun (q : Nat × Nat) => q.2).sum ≤ 7000000 := by decide +kernel
      unfold rx_sh
      rw [List.length_cons, List.map_cons, List.sum_cons, a]
      show 133 + 1 ≤ 600001 ∧ L + _ ≤ _
      omega
    · subst e
      have a : (rx_s1 ++ rx_tr).length = 142 := by decide +kernel
      have b : ((rx_s1 ++ rx_tr).map fun (q : Nat × Nat) => q.2).sum ≤ 7000000 := by decide +kernel
      unfold rx_sh
      rw [List.length_cons, List.map_cons, List.sum_cons, a]
      show 142 + 1 ≤ 600001 ∧ L + _ ≤ _
      omega
  exact ⟨rfl, key.1, key.2⟩
theorem lw_lt {L i : Nat} (hL : L ≤ 3074) (hi : i < 2 ^ 30) : (nI L - 6 < nI i) ↔ L < i + 6 := by
  by_cases h : 6 ≤ L
  · rw [show (6 : Int32) = nI 6 from rfl, cf_nsub h, cf_lt, nI_toInt (by omega), nI_toInt (by omega)]
    omega
  · have : ∀ l : Fin 6, (nI l.val - 6 : Int32).toInt < 0 := by decide +kernel
    have h2 : (nI L - 6 : Int32).toInt < 0 := this ⟨L, by omega⟩
    rw [cf_lt, nI_toInt (by omega)]
    omega
set_option maxRecDepth 100000 in
theorem lw_loop {L : Nat} {xs : Nat → Int32} (hL : L ≤ 3074) : ∀ d i, L ≤ i + d → i ≤ L + 6 → ∀ t hi hl v, cf_Rel t hi hl v → (∀ b, hi 0 b = xs b) → rx_aw 0 38 [.ref 0, .ref 1, .ref 90, .int (nI i)] [] (rx_hp L t hi hl v) (lw_F L) := by
  intro d
  induction d with
  | zero =>
    intro i h1 h2 t hi hl v R E
    refine rx_aw_s 6 (pc := 38) rfl ?_
    refine rx_w_if (c := (nI L - 6 : Int32) < nI i) ⟨fun q => ?_, fun q => absurd ((lw_lt hL (by omega)).mpr (by omega)) q⟩
    refine rx_aw_s 1 (pc := 1087) rfl ?_
    exact rx_aw_ret (pc := 1088) rfl (lw_end R)
  | succ d ih =>
    intro i h1 h2 t hi hl v R E
    refine rx_aw_s 6 (pc := 38) rfl ?_
    refine rx_w_if (c := (nI L - 6 : Int32) < nI i) ⟨fun q => ?_, fun q => ?_⟩
    · refine rx_aw_s 1 (pc := 1087) rfl ?_
      exact rx_aw_ret (pc := 1088) rfl (lw_end R)
    have h6 : i + 6 ≤ L := by
      rw [lw_lt hL (by omega)] at q; omega
    have go : ∀ t hi hl v, cf_Rel t hi hl v → (∀ b, hi 0 b = xs b) → rx_aw 0 1081 [.ref 0, .ref 1, .ref 90, .int (nI i)] [] (rx_hp L t hi hl v) (lw_F L) := by
      intro t hi hl v R E
      refine rx_aw_s 2 (pc := 1081) rfl ?_
      have e : nI i + Int32.ofInt 6 = nI (i + 6) := nI_add i 6
      show rx_aw 0 38 [.ref 0, .ref 1, .ref 90, .int (nI i + Int32.ofInt 6)] [] (rx_hp L t hi hl v) (lw_F L)
      rw [e]
      exact ih (i + 6) (by omega) (by omega) t hi hl v R E
    refine rx_aw_s 2 (pc := 47) rfl ?_
    refine rx_w_iald (pc := 49) (n := L) rfl rfl rfl (by omega) ⟨i, rfl, by omega, ?_⟩
    refine rx_aw_s 2 (pc := 50) rfl ?_
    show rx_aw 0 53 [.ref 0, .ref 1, .ref 90, .int (nI i)] [.int (hi 0 i &&& 31)] (rx_hp L t hi hl v) (lw_F L)
    obtain ⟨n, hn, en⟩ := lw_bits (hi 0 i)
    rw [en]
    match n, hn with
    | 0, _ => exact rx_aw_tsw (pc := 53) (p2 := 180) rfl (by decide) (lw_lay hL h6 R E go)
    | 1, _ => exact rx_aw_tsw (pc := 53) (p2 := 223) rfl (by decide) (lw_row hL h6 R E go)
    | 2, _ => exact rx_aw_tsw (pc := 53) (p2 := 272) rfl (by decide) (lw_shelf hL h6 R E go)
    | 3, _ => exact rx_aw_tsw (pc := 53) (p2 := 305) rfl (by decide) (lw_cart hL h6 R E go)
    | 4, _ => exact rx_aw_tsw (pc := 53) (p2 := 358) rfl (by decide) (lw_errand hL h6 R E go)
    | 5, _ => exact rx_aw_tsw (pc := 53) (p2 := 411) rfl (by decide) (lw_plan hL h6 R E go)
    | 6, _ => exact rx_aw_tsw (pc := 53) (p2 := 434) rfl (by decide) (lw_many hL h6 R E go)
    | 7, _ => exact rx_aw_tsw (pc := 53) (p2 := 447) rfl (by decide) (lw_stop hL h6 R E go)
    | 8, _ => exact rx_aw_tsw (pc := 53) (p2 := 480) rfl (by decide) (lw_dawn hL h6 R E go)
    | 9, _ => exact rx_aw_tsw (pc := 53) (p2 := 493) rfl (by decide) (lw_tell hL h6 R E go)
    | 10, _ => exact rx_aw_tsw (pc := 53) (p2 := 526) rfl (by decide) (lw_hush hL h6 R E go)
    | 11, _ => exact rx_aw_tsw (pc := 53) (p2 := 539) rfl (by decide) (lw_check hL h6 R E go)
    | 12, _ => exact rx_aw_tsw (pc := 53) (p2 := 562) rfl (by decide) (lw_guest hL h6 R E go)
    | 13, _ => exact rx_aw_tsw (pc := 53) (p2 := 585) rfl (by decide) (lw_at hL h6 R E go)
    | 14, _ => exact rx_aw_tsw (pc := 53) (p2 := 628) rfl (by decide) (lw_shelved hL h6 R E go)
    | 15, _ => exact rx_aw_tsw (pc := 53) (p2 := 661) rfl (by decide) (lw_about hL h6 R E go)
    | 16, _ => exact rx_aw_tsw (pc := 53) (p2 := 694) rfl (by decide) (lw_count hL h6 R E go)
    | 17, _ => exact rx_aw_tsw (pc := 53) (p2 := 717) rfl (by decide) (lw_digest hL h6 R E go)
    | 18, _ => exact rx_aw_tsw (pc := 53) (p2 := 731) rfl (by decide) (lw_safe hL h6 R E go)
    | 19, _ => exact rx_aw_tsw (pc := 53) (p2 := 744) rfl (by decide) (lw_few hL h6 R E go)
    | 20, _ => exact rx_aw_tsw (pc := 53) (p2 := 787) rfl (by decide) (lw_hang hL h6 R E go)
    | 21, _ => exact rx_aw_tsw (pc := 53) (p2 := 830) rfl (by decide) (lw_take hL h6 R E go)
    | 22, _ => exact rx_aw_tsw (pc := 53) (p2 := 863) rfl (by decide) (lw_weight hL h6 R E go)
    | 23, _ => exact rx_aw_tsw (pc := 53) (p2 := 886) rfl (by decide) (lw_mark hL h6 R E go)
    | 24, _ => exact rx_aw_tsw (pc := 53) (p2 := 929) rfl (by decide) (lw_copy hL h6 R E go)
    | 25, _ => exact rx_aw_tsw (pc := 53) (p2 := 992) rfl (by decide) (lw_line hL h6 R E go)
    | 26, _ => exact rx_aw_tsw (pc := 53) (p2 := 1025) rfl (by decide) (lw_slot hL h6 R E go)
    | 27, _ => exact rx_aw_tsw (pc := 53) (p2 := 1058) rfl (by decide) (lw_mean hL h6 R E go)
    | 28, _ => exact rx_aw_tsw (pc := 53) (p2 := 1081) rfl (by decide) (go t hi hl v R E)
    | 29, _ => exact rx_aw_tsw (pc := 53) (p2 := 1081) rfl (by decide) (go t hi hl v R E)
    | 30, _ => exact rx_aw_tsw (pc := 53) (p2 := 1081) rfl (by decide) (go t hi hl v R E)
    | 31, _ => exact rx_aw_tsw (pc := 53) (p2 := 1081) rfl (by decide) (go t hi hl v R E)
    | n + 32, h => exact absurd h (by omega)
