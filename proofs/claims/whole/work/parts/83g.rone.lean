/-! few: who may be one of them (both); shutOf. -/
def cf_1 (S : cf_S) (n : Nat) : Prop := 0 < n ∧ S 3 (n - 1) ≤ 1 ∧ S 9 (n - 1) / 256 = 0 ∧ 0 < S 5 (n - 1) ∧ S 6 (n - 1) = 0
def cf_fwz (S : cf_S) (a0 a1 a2 : Int32) : Prop := ¬ cf_1 S (cf_cn (S 0 2) a0) ∨ ¬ cf_1 S (cf_cn (S 0 2) a1) ∨ a0 = a1 ∨ (¬ a2 = -1 ∧ (¬ cf_1 S (cf_cn (S 0 2) a2) ∨ a2 = a0 ∨ a2 = a1)) ∨ 20 < cf_rk S 64
def cf_us (S : cf_S) (a0 a1 a2 : Int32) : Nat → Nat
  | 0 => cf_cn (S 0 2) a0
  | 1 => cf_cn (S 0 2) a1
  | _ => cf_cn (S 0 2) a2
theorem cf_cn_oI {n : Nat} {x : Int32} (hn : n ≤ 6) (h : 0 < cf_cn n x ∨ x = -1) : x = oI (cf_cn n x) ∧ cf_cn n x ≤ n := by
  rcases h with h | h
  · obtain ⟨a, b⟩ := cf_cn_x hn h
    refine ⟨?_, by omega⟩
    rw [show cf_cn n x = cf_cn n x - 1 + 1 by omega, cf_oS]; exact a
  · subst h
    have : cf_cn n (-1) = 0 := by
      unfold cf_cn
      rw [if_neg (by rintro ⟨z, _⟩; exact absurd z (by decide))]
    rw [this]; exact ⟨rfl, by omega⟩
theorem cf_us_ok {S : cf_S} (V : cf_V S) {a0 a1 a2 : Int32} (h : ¬ cf_fwz S a0 a1 a2) : cf_FW S (cf_us S a0 a1 a2) ∧ a0 = oI (cf_us S a0 a1 a2 0) ∧ a1 = oI (cf_us S a0 a1 a2 1) ∧ a2 = oI (cf_us S a0 a1 a2 2) ∧ (cf_us S a0 a1 a2 2 = 0 ↔ a2 = -1) := by
  have h6 := V.2.2.1
  unfold cf_fwz at h
  have h1 : cf_1 S (cf_cn (S 0 2) a0) := Classical.byContradiction fun z => h (Or.inl z)
  have h2 : cf_1 S (cf_cn (S 0 2) a1) := Classical.byContradiction fun z => h (Or.inr (Or.inl z))
  have h3 : ¬ a0 = a1 := fun z => h (Or.inr (Or.inr (Or.inl z)))
  have h4 : ¬ a2 = -1 → cf_1 S (cf_cn (S 0 2) a2) ∧ ¬ a2 = a0 ∧ ¬ a2 = a1 := fun z => ⟨Classical.byContradiction fun w => h (Or.inr (Or.inr (Or.inr (Or.inl ⟨z, Or.inl w⟩)))), fun w => h (Or.inr (Or.inr (Or.inr (Or.inl ⟨z, Or.inr (Or.inl w)⟩)))), fun w => h (Or.inr (Or.inr (Or.inr (Or.inl ⟨z, Or.inr (Or.inr w)⟩))))⟩
  have h5 : cf_rk S 64 ≤ 20 := by
    rcases Nat.lt_or_ge 20 (cf_rk S 64) with z | z
    · exact absurd (Or.inr (Or.inr (Or.inr (Or.inr z)))) h
    · exact z
  obtain ⟨e0, l0⟩ := cf_cn_oI (n := S 0 2) (x := a0) h6 (Or.inl h1.1)
  obtain ⟨e1, l1⟩ := cf_cn_oI (n := S 0 2) (x := a1) h6 (Or.inl h2.1)
  have h2c : 0 < cf_cn (S 0 2) a2 ∨ a2 = -1 := by
    by_cases z : a2 = -1
    · exact Or.inr z
    · exact Or.inl (h4 z).1.1
  obtain ⟨e2, l2⟩ := cf_cn_oI (n := S 0 2) (x := a2) h6 h2c
  have z2 : cf_cn (S 0 2) a2 = 0 ↔ a2 = -1 := by
    constructor
    · intro z
      rw [z] at e2; exact e2
    · intro z
      rcases Nat.eq_zero_or_pos (cf_cn (S 0 2) a2) with w | w
      · exact w
      · have := (cf_cn_x h6 w).1
        have this : (-1 : Int32) = nI (cf_cn (S 0 2) a2 - 1) := z.symm.trans this
        have e : ((-1 : Int32)).toInt = -1 := rfl
        rw [cf_eqI, e, nI_toInt (by omega)] at this
        omega
  refine ⟨⟨fun i hi => ?_, h1.1, h2.1, fun z => ?_, fun z => ?_, fun z => ?_, fun i hi hu => ?_, h5⟩, e0, e1, e2, z2⟩
  · match i, hi with
    | 0, _ => exact l0
    | 1, _ => exact l1
    | 2, _ => exact l2
  · exact h3 (by rw [e0, e1]; exact congrArg oI z)
  · have z : cf_cn (S 0 2) a2 = cf_cn (S 0 2) a0 := z
    have : ¬ a2 = -1 := fun w => by have := z2.mpr w; have := h1.1; omega
    exact (h4 this).2.1 (by rw [e2, e0, z])
  · have z : cf_cn (S 0 2) a2 = cf_cn (S 0 2) a1 := z
    have : ¬ a2 = -1 := fun w => by have := z2.mpr w; have := h2.1; omega
    exact (h4 this).2.2 (by rw [e2, e1, z])
  · match i, hi with
    | 0, _ => exact h1.2
    | 1, _ => exact h2.2
    | 2, _ =>
      have hu : 0 < cf_cn (S 0 2) a2 := hu
      exact (h4 (fun w => by have := z2.mpr w; omega)).1.2
section RXE
variable {L : Nat} {t : List (Nat × Nat)} {hi : Nat → Nat → Int32} {hl : Nat → Nat → Int64} {v : Nat → Nat → Option Nat}
variable {RI : Int32 → (Nat → Nat → Int32) → (Nat → Nat → Int64) → (Nat → Nat → Option Nat) → Prop}
variable {RL : Int64 → (Nat → Nat → Int32) → (Nat → Nat → Int64) → (Nat → Nat → Option Nat) → Prop}
theorem c122 {S : cf_S} (V : cf_V S) (C : cf_C S hi) {x : Int32} (k : ∀ z : Bool, (z = true ↔ cf_1 S (cf_cn (S 0 2) x)) → RI (cf_B z) hi hl v) : rx_CI L t 122 [.ref 1, .int x] hi hl v RI := by
  have h6 := V.2.2.1
  have h12 := V.2.2.2.1
  have hwh := cf_V_wh V
  have k0 : ¬ cf_1 S (cf_cn (S 0 2) x) → RI (cf_B false) hi hl v := fun h => k false ⟨fun z => Bool.noConfusion z, fun z => absurd z h⟩
  have z0 : ((0 : Int32)).toInt = 0 := rfl
  refine w122_mayBeOfFew (c59 V C ?_)
  by_cases h0 : cf_cn (S 0 2) x = 0
  · exact Or.inl ⟨if_pos h0, c_retI (k0 (fun z => by have := z.1; omega))⟩
  rw [if_neg h0]
  obtain ⟨_, hc⟩ := cf_cn_x (x := x) h6 (by omega)
  have hC := C.2.2.1 _ hc
  obtain ⟨v3, _, vl, _, v5, v6, _⟩ := V.2.2.2.2.2.2.1 _ hc
  refine Or.inr ⟨cf_cn (S 0 2) x - 1, by omega, rfl, fun q => c_retI (k0 (fun z => ?_)), fun q => ?_⟩
  all_goals rw [hC.1, show (1 : Int32) = nI 1 from rfl, cf_lt, nI_toInt (by omega), nI_toInt (by omega)] at q
  · have := z.2.1; omega
  rw [hC.2.1]
  have hs9 : S 9 (cf_cn (S 0 2) x - 1) < 2 ^ 31 := by omega
  refine c48 hs9 ⟨fun q2 => c_retI (k0 (fun z => ?_)), fun q2 => ⟨fun q3 => c_retI (k0 (fun z => ?_)), fun q3 => ⟨fun q4 => c_retI (k0 (fun z => ?_)), fun q4 => c_retI (k true ⟨fun _ => ?_, fun _ => rfl⟩)⟩⟩⟩
  all_goals rw [cf_ole (by omega)] at q2
  · have := z.2.2.1; omega
  all_goals rw [hC.2.2.2.1, cf_oneg (by omega)] at q3
  · have := z.2.2.2.1; omega
  all_goals rw [hC.2.2.2.2.1, cf_ole (by omega)] at q4
  · have := z.2.2.2.2; omega
  · exact ⟨by omega, by omega, by omega, by omega, by omega⟩
theorem c229 {S : cf_S} (V : cf_V S) (M : cf_M S hi) {x : Int32} (k : ∀ z : Bool, (z = true ↔ cf_1 S (cf_cn (S 0 2) x)) → RI (cf_B z) hi hl v) : rx_CI L t 229 [.ref 90, .int x] hi hl v RI := by
  have h6 := V.2.2.1
  have h12 := V.2.2.2.1
  have k0 : ¬ cf_1 S (cf_cn (S 0 2) x) → RI (cf_B false) hi hl v := fun h => k false ⟨fun z => Bool.noConfusion z, fun z => absurd z h⟩
  refine w229_isOne_r (c161 V M ⟨fun g => c_retI (k0 (fun z => ?_)), fun g => ?_⟩)
  · have := cf_B_eq g
    rw [decide_eq_false_iff_not] at this
    exact this z.1
  have g := cf_B_ne g
  rw [decide_eq_true_iff] at g
  obtain ⟨ex, hc⟩ := cf_cn_x h6 g
  have hcn : cf_cn (S 0 2) x - 1 + 1 = cf_cn (S 0 2) x := by omega
  rw [← hcn] at k k0
  clear g
  revert ex hc hcn k k0
  generalize cf_cn (S 0 2) x - 1 = c
  intro k k0 ex hc hcn
  subst ex
  have hM := M.2.2.2.2.2.1 c hc
  obtain ⟨v3, _, vl, _, v5, v6, _⟩ := V.2.2.2.2.2.2.1 c hc
  have e402 : (402 : Int32) * nI c = nI (402 * c) := by rw [show (402 : Int32) = nI 402 from rfl, cf_nmul]
  refine ⟨c, rfl, by omega, fun q => c_retI (k0 (fun z => ?_)), fun q => ⟨402 * c, e402, by omega, fun q2 => c_retI (k0 (fun z => ?_)), fun q2 => ⟨c, rfl, by omega, fun q3 => c_retI (k0 (fun z => ?_)), fun q3 => ⟨c, rfl, by omega, fun q4 => c_retI (k0 (fun z => ?_)), fun q4 => c_retI (k true ⟨fun _ => ?_, fun _ => rfl⟩)⟩⟩⟩⟩
  all_goals rw [hM.1, show (1 : Int32) = nI 1 from rfl, cf_lt, nI_toInt (by omega), nI_toInt (by omega)] at q
  · have := z.2.1; rw [Nat.add_sub_cancel] at this; omega
  all_goals rw [hM.2.2.2.2.2.2.2.2.2, cf_ole (by omega)] at q2
  · have := z.2.2.1; rw [Nat.add_sub_cancel] at this; omega
  all_goals rw [hM.2.2.1] at q3
  · have := cf_B_eq q3
    rw [decide_eq_false_iff_not] at this
    have w := z.2.2.2.1
    rw [Nat.add_sub_cancel] at w; exact this w
  all_goals have w5 := cf_B_ne q3
  all_goals rw [decide_eq_true_iff] at w5
  all_goals rw [(hM.2.2.2.1 w5).2, cf_ole (by omega)] at q4
  · have := z.2.2.2.2; rw [Nat.add_sub_cancel] at this; omega
  · refine ⟨by omega, ?_, ?_, ?_, ?_⟩ <;> rw [Nat.add_sub_cancel] <;> omega
/-- what is shut to one of them -/
theorem c230 {S : cf_S} (V : cf_V S) (M : cf_M S hi) (N : cf_NW S hi hl) {u : Nat → Nat} (W : cf_FW S u) {i : Nat} (hi3 : i < 3) (hu : ¬ u i = 0) (hg : hi 90 53 = nI (cf_gr u)) (hw : ∀ i, i < 3 → ¬ u i = 0 → hi 128 i = nI (u i - 1))
    (k : ∀ z : Int64, (∀ q, cf_fs S q = true → (cf_has z q = false ↔ cf_oq S u (u i - 1) q = true)) → RL z hi hl v) : rx_CL L t 230 [.ref 90, .int (nI (u i - 1))] hi hl v RL := by
  have h6 := V.2.2.1
  have h12 := V.2.2.2.1
  have g3 := cf_gr_le u
  have hgr : ∀ i, i < 3 → (i < cf_gr u ↔ ¬ u i = 0) := fun i hi => cf_gr_c W.2.1 W.2.2.1 hi
  have hui := W.1 i hi3
  have hc : u i - 1 < S 0 2 := by omega
  have hM := M.2.2.2.2.2.1 _ hc
  obtain ⟨w1, w2, w3, w4⟩ := W.2.2.2.2.2.2.1 i hi3 (by omega)
  -- the carts
  have lp : ∀ d o, o + d = S 0 2 → ∀ z : Int64, (∀ q, cf_fs S q = true → (cf_has z q = false ↔ cf_has (cf_un (fun o => if o + 1 = u 0 ∨ o + 1 = u 1 ∨ o + 1 = u 2 then 0 else cf_sd S 0 o) o) q = false ∧ (S 3 (u i - 1) = 1 ∨ cf_has (cf_sq S 0 0) q = false))) → rx_aw 230 28 [.ref 90, .int (nI (u i - 1)), .long z, rx_no, .int (nI o), rx_no, rx_no] [] (rx_hp L t hi hl v) (fun r h2 => ∃ z : Int64, r = some (.long z) ∧ rx_ok2 L t h2 (RL z)) := by
    intro d
    induction d with
    | zero =>
      intro o hod z hz
      have : o = S 0 2 := by omega
      subst this
      refine w230_shutOf_r_28 ⟨fun _ => c_retL (k z (fun q hq => ?_)), fun g => absurd ?_ g⟩
      · rw [hz q hq]
        unfold cf_oq cf_sto
        rw [hq, Bool.true_and, Bool.and_eq_true, Bool.not_eq_true', Bool.or_eq_true, decide_eq_true_iff, Bool.not_eq_true']
      · rw [M.2.1, cf_nle (by omega) (by omega)]; omega
    | succ d ih =>
      intro o hod z hz
      refine w230_shutOf_r_28 ⟨fun g => ?_, fun _ => ?_⟩
      · rw [M.2.1, cf_nle (by omega) (by omega)] at g; omega
      have in_ : ∀ d2 j, j + d2 = cf_gr u → ∀ b : Bool, (b = true ↔ ∃ j', j' < j ∧ o + 1 = u j') → rx_aw 230 43 [.ref 90, .int (nI (u i - 1)), .long z, rx_no, .int (nI o), .int (cf_B b), .int (nI j)] [] (rx_hp L t hi hl v) (fun r h2 => ∃ z : Int64, r = some (.long z) ∧ rx_ok2 L t h2 (RL z)) := by
        intro d2
        induction d2 with
        | zero =>
          intro j hjd b hb
          have hall : b = true ↔ (o + 1 = u 0 ∨ o + 1 = u 1 ∨ o + 1 = u 2) := by
            rw [hb]
            constructor
            · rintro ⟨j', h1, h2⟩
              have : j' < 3 := by omega
              match j', this with
              | 0, _ => exact Or.inl h2
              | 1, _ => exact Or.inr (Or.inl h2)
              | 2, _ => exact Or.inr (Or.inr h2)
            · rintro (h | h | h)
              · exact ⟨0, by have := (hgr 0 (by omega)).mpr (by omega); omega, h⟩
              · exact ⟨1, by have := (hgr 1 (by omega)).mpr (by omega); omega, h⟩
              · exact ⟨2, by have := (hgr 2 (by omega)).mpr (by omega); omega, h⟩
          have e402 : (402 : Int32) * nI o = nI (402 * o) := by rw [show (402 : Int32) = nI 402 from rfl, cf_nmul]
          refine w230_shutOf_r_43 ⟨fun _ => ⟨fun q => ⟨402 * o, e402, by omega, ?_⟩, fun q => ?_⟩, fun g => absurd ?_ g⟩
          · have hno : ¬ (o + 1 = u 0 ∨ o + 1 = u 1 ∨ o + 1 = u 2) := fun w => by rw [hall.mpr w] at q; exact absurd q (by decide)
            have e5 := ((N.1 o (by omega)).1 0 (by omega)).2.2.2.1
            rw [Nat.add_zero] at e5
            rw [e5, show nI o + 1 = nI (o + 1) from nI_add o 1]
            refine ih (o + 1) (by omega) _ (fun q' hq' => ?_)
            rw [cf_un, if_neg hno, cf_hor, cf_hor, Bool.or_eq_false_iff, Bool.or_eq_false_iff, hz q' hq']
            constructor
            · rintro ⟨⟨x1, x2⟩, x3⟩; exact ⟨⟨x1, x3⟩, x2⟩
            · rintro ⟨⟨x1, x3⟩, x2⟩; exact ⟨⟨x1, x2⟩, x3⟩
          · have hyes : o + 1 = u 0 ∨ o + 1 = u 1 ∨ o + 1 = u 2 := hall.mp (cf_B_ne q)
            rw [cf_or0, show nI o + 1 = nI (o + 1) from nI_add o 1]
            refine ih (o + 1) (by omega) z (fun q' hq' => ?_)
            rw [cf_un, if_pos hyes, cf_or0]; exact hz q' hq'
          · rw [hg, cf_nle (by omega) (by omega)]; omega
        | succ d2 ih2 =>
          intro j hjd b hb
          have h3 : j < 3 := by omega
          have huj := (hgr j h3).mp (by omega)
          have ew := hw j h3 huj
          have hujn := W.1 j h3
          refine w230_shutOf_r_43 ⟨fun g => ?_, fun _ => ⟨j, rfl, h3, fun q => ?_, fun q => ?_⟩⟩
          · rw [hg, cf_nle (by omega) (by omega)] at g; omega
          all_goals rw [ew, nI_eq (by omega) (by omega)] at q
          · rw [cf_Bor1, show nI j + 1 = nI (j + 1) from nI_add j 1]
            exact ih2 (j + 1) (by omega) true ⟨fun _ => ⟨j, by omega, by omega⟩, fun _ => rfl⟩
          · rw [cf_Bor0, show nI j + 1 = nI (j + 1) from nI_add j 1]
            refine ih2 (j + 1) (by omega) b (hb.trans ⟨fun ⟨j', x1, x2⟩ => ⟨j', by omega, x2⟩, fun ⟨j', x1, x2⟩ => ⟨j', ?_, x2⟩⟩)
            by_cases w : j' = j
            · subst w; omega
            · omega
      exact in_ (cf_gr u) 0 (by omega) false ⟨fun z => Bool.noConfusion z, fun ⟨j', h, _⟩ => by omega⟩
  have nb : ∀ q, cf_fs S q = true → cf_has (cf_bar S) q = false := fun q hq => by
    have := cf_fs_lt hq
    rw [cf_has_bar V this]
    unfold cf_fs at hq
    rw [Bool.and_eq_true, Bool.not_eq_true'] at hq; exact hq.2
  have un0 : ∀ q, cf_has (cf_un (fun o => if o + 1 = u 0 ∨ o + 1 = u 1 ∨ o + 1 = u 2 then 0 else cf_sd S 0 o) 0) q = false := fun q => cf_h0 q
  refine w230_shutOf_r (c167 V M ⟨u i - 1, rfl, by omega, fun q => ?_, fun q => ?_⟩)
  all_goals rw [hM.1, show (0 : Int32) = nI 0 from rfl, nI_eq (by omega) (by omega)] at q
  · refine c171 (j := 0) (x := 0) M.2.2.1 h12 (cf_RW_NW V N) (by omega) (by omega) (lp (S 0 2) 0 (by omega) _ (fun q' hq' => ?_))
    have e : cf_sqg (S 0 3) (cf_sp S) 0 0 = cf_sq S 0 0 := rfl
    rw [cf_hor, nb q' hq', Bool.false_or, un0, e]
    refine ⟨fun w => ⟨rfl, Or.inr w⟩, fun w => ?_⟩
    rcases w.2 with z | z
    · omega
    · exact z
  · refine lp (S 0 2) 0 (by omega) _ (fun q' hq' => ?_)
    rw [cf_or0, nb q' hq', un0]
    exact ⟨fun _ => ⟨rfl, Or.inl (by omega)⟩, fun _ => rfl⟩
end RXE
