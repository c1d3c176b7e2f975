/-! few of the reference: better, stateOf, openState, isStep. -/
/-- how many go -/
def cf_gr (u : Nat → Nat) : Nat := if u 2 = 0 then 2 else 3
def cf_Fr (S : cf_S) (u : Nat → Nat) (hi : Nat → Nat → Int32) (hl : Nat → Nat → Int64) : Prop := cf_M S hi ∧ hi 90 53 = nI (cf_gr u) ∧ (∀ i, i < 3 → ¬ u i = 0 → hi 128 i = nI (u i - 1)) ∧ (∀ p, p < cf_rk S 64 → hi 126 p = nI (cf_sk S p)) ∧ (∀ q, q < S 0 0 * S 0 1 → hi 127 q = oI (if cf_fs S q = true then cf_rk S q + 1 else 0))
  ∧ (∀ i, i < 3 → ¬ u i = 0 → ∀ q, cf_fs S q = true → (cf_has (hl 131 i) q = false ↔ cf_oq S u (u i - 1) q = true))
theorem cf_Fr_ext {S : cf_S} {u : Nat → Nat} {hi hi2 : Nat → Nat → Int32} {hl : Nat → Nat → Int64} (R : cf_Fr S u hi hl) (F : ∀ a b, ¬ (a = 129 ∨ a = 130 ∨ a = 132 ∨ a = 133) → hi2 a b = hi a b) : cf_Fr S u hi2 hl := by
  obtain ⟨a, b, c, d, e, f⟩ := R
  exact ⟨cf_M_ext a (fun x y _ _ _ => F x y (by omega)), (F _ _ (by omega)).trans b, fun i h1 h2 => (F _ _ (by omega)).trans (c i h1 h2), fun p hp => (F _ _ (by omega)).trans (d p hp), fun q hq => (F _ _ (by omega)).trans (e q hq), f⟩
def cf_Cs (hi : Nat → Nat → Int32) (c : Nat → Nat) (e : Nat → Bool) : Prop := ∀ k, k < 64000 → hi 129 k = nI (c k) ∧ hi 130 k = cf_B (e k)
theorem cf_Cs_ext {hi hi2 : Nat → Nat → Int32} {c : Nat → Nat} {e : Nat → Bool} (C : cf_Cs hi c e) (F : ∀ a b, (a = 129 ∨ a = 130) → hi2 a b = hi a b) : cf_Cs hi2 c e := fun k hk => ⟨(F _ _ (Or.inl rfl)).trans (C k hk).1, (F _ _ (Or.inr rfl)).trans (C k hk).2⟩
theorem cf_gr_c {u : Nat → Nat} {i : Nat} (hu0 : 0 < u 0) (hu1 : 0 < u 1) (hi : i < 3) : i < cf_gr u ↔ ¬ u i = 0 := by
  unfold cf_gr
  match i, hi with
  | 0, _ => split <;> omega
  | 1, _ => split <;> omega
  | 2, _ => split <;> omega
theorem cf_gr_le (u : Nat → Nat) : cf_gr u ≤ 3 := by unfold cf_gr; split <;> omega
section RXE
variable {L : Nat} {t : List (Nat × Nat)} {hl : Nat → Nat → Int64} {v : Nat → Nat → Option Nat}
variable {RI : Int32 → (Nat → Nat → Int32) → (Nat → Nat → Int64) → (Nat → Nat → Option Nat) → Prop}
variable {RV : (Nat → Nat → Int32) → (Nat → Nat → Int64) → (Nat → Nat → Option Nat) → Prop}
theorem c232 {hi : Nat → Nat → Int32} {c : Nat → Nat} {e : Nat → Bool} {k n : Nat} (C : cf_Cs hi c e) (hk : k < 64000) (hn : n < 2 ^ 31) (hc : c k < 2 ^ 31) (kk : ∀ hi2 z, (∀ a b, ¬ a = 129 → hi2 a b = hi a b) → cf_Cs hi2 (cf_mn c k n) e → RI z hi2 hl v) : rx_CI L t 232 [.ref 90, .int (nI k), .int (nI n)] hi hl v RI := by
  have ck := (C k hk).1
  refine w232_better_r ⟨k, rfl, hk, fun q => c_retI (kk hi _ (fun _ _ _ => rfl) ?_), fun q => ⟨k, rfl, hk, c_retI (kk _ _ (fun a b z => cf_ru_ne (by omega)) ?_)⟩⟩
  all_goals rw [ck, cf_nle (by omega) (by omega)] at q
  · have : cf_mn c k n = c := by
      funext j
      unfold cf_mn
      split
      · rename_i z; subst z; omega
      · rfl
    rw [this]; exact C
  · intro j hj
    obtain ⟨a, b⟩ := C j hj
    refine ⟨?_, by rw [cf_ru_ne (by omega)]; exact b⟩
    by_cases z : j = k
    · subst z
      rw [cf_ru_eq]
      unfold cf_mn
      rw [if_pos rfl, Nat.min_eq_right (by omega)]
    · rw [cf_ru_ne (by omega), cf_mn_ne z]; exact a
theorem c231a {hi : Nat → Nat → Int32} {u : Nat → Nat} {b : Nat → Nat} {l : Nat} (hg : hi 90 53 = nI (cf_gr u)) (hb : ∀ i, i < cf_gr u → hi 132 i = nI (b i)) (hz : ∀ i, i < 3 → ¬ i < cf_gr u → b i = 0) (k : RI (nI (8 * (400 * b 0 + 20 * b 1 + b 2) + l)) hi hl v) : rx_CI L t 231 [.ref 90, .ref 132, .int (nI l)] hi hl v RI := by
  have g3 := cf_gr_le u
  have stp : ∀ i n, i < 3 → rx_aw 231 5 [.ref 90, .ref 132, .int (nI l), .int (nI (20 * n + b i)), .int (nI (i + 1))] [] (rx_hp L t hi hl v) (fun r h2 => ∃ z : Int32, r = some (.int z) ∧ rx_ok2 L t h2 (RI z)) → rx_aw 231 5 [.ref 90, .ref 132, .int (nI l), .int (nI n), .int (nI i)] [] (rx_hp L t hi hl v) (fun r h2 => ∃ z : Int32, r = some (.int z) ∧ rx_ok2 L t h2 (RI z)) := by
    intro i n hi3 kk
    refine w231_stateOf_r_at132_5 ⟨fun q => ?_, fun _ => ⟨fun q => ?_, fun q => ⟨i, rfl, hi3, ?_⟩⟩⟩
    · rw [show (3 : Int32) = nI 3 from rfl, cf_nle (by omega) (by omega)] at q; omega
    · rw [hg, cf_nle (by omega) (by omega)] at q
      rw [hz i hi3 (by omega)] at kk
      rw [show (20 : Int32) = nI 20 from rfl, cf_nmul, show (0 : Int32) = nI 0 from rfl, nI_add, show nI i + 1 = nI (i + 1) from nI_add i 1]; exact kk
    · rw [hg, cf_nle (by omega) (by omega)] at q
      rw [hb i (by omega), show (20 : Int32) = nI 20 from rfl, cf_nmul, nI_add, show nI i + 1 = nI (i + 1) from nI_add i 1]; exact kk
  refine w231_stateOf_r_at132 (stp 0 0 (by omega) (stp 1 _ (by omega) (stp 2 _ (by omega) (w231_stateOf_r_at132_5 ⟨fun _ => c_retIe k ?_, fun q => absurd (by decide) q⟩))))
  rw [show (8 : Int32) = nI 8 from rfl, cf_nmul, nI_add]
  have e : 8 * (20 * (20 * (20 * 0 + b 0) + b 1) + b 2) + l = 8 * (400 * b 0 + 20 * b 1 + b 2) + l := by omega
  rw [e]
theorem c231b {hi : Nat → Nat → Int32} {u : Nat → Nat} {b : Nat → Nat} {l : Nat} (hg : hi 90 53 = nI (cf_gr u)) (hb : ∀ i, i < cf_gr u → hi 133 i = nI (b i)) (hz : ∀ i, i < 3 → ¬ i < cf_gr u → b i = 0) (k : RI (nI (8 * (400 * b 0 + 20 * b 1 + b 2) + l)) hi hl v) : rx_CI L t 231 [.ref 90, .ref 133, .int (nI l)] hi hl v RI := by
  have g3 := cf_gr_le u
  have stp : ∀ i n, i < 3 → rx_aw 231 5 [.ref 90, .ref 133, .int (nI l), .int (nI (20 * n + b i)), .int (nI (i + 1))] [] (rx_hp L t hi hl v) (fun r h2 => ∃ z : Int32, r = some (.int z) ∧ rx_ok2 L t h2 (RI z)) → rx_aw 231 5 [.ref 90, .ref 133, .int (nI l), .int (nI n), .int (nI i)] [] (rx_hp L t hi hl v) (fun r h2 => ∃ z : Int32, r = some (.int z) ∧ rx_ok2 L t h2 (RI z)) := by
    intro i n hi3 kk
    refine w231_stateOf_r_at133_5 ⟨fun q => ?_, fun _ => ⟨fun q => ?_, fun q => ⟨i, rfl, hi3, ?_⟩⟩⟩
    · rw [show (3 : Int32) = nI 3 from rfl, cf_nle (by omega) (by omega)] at q; omega
    · rw [hg, cf_nle (by omega) (by omega)] at q
      rw [hz i hi3 (by omega)] at kk
      rw [show (20 : Int32) = nI 20 from rfl, cf_nmul, show (0 : Int32) = nI 0 from rfl, nI_add, show nI i + 1 = nI (i + 1) from nI_add i 1]; exact kk
    · rw [hg, cf_nle (by omega) (by omega)] at q
      rw [hb i (by omega), show (20 : Int32) = nI 20 from rfl, cf_nmul, nI_add, show nI i + 1 = nI (i + 1) from nI_add i 1]; exact kk
  refine w231_stateOf_r_at133 (stp 0 0 (by omega) (stp 1 _ (by omega) (stp 2 _ (by omega) (w231_stateOf_r_at133_5 ⟨fun _ => c_retIe k ?_, fun q => absurd (by decide) q⟩))))
  rw [show (8 : Int32) = nI 8 from rfl, cf_nmul, nI_add]
  have e : 8 * (20 * (20 * (20 * 0 + b 0) + b 1) + b 2) + l = 8 * (400 * b 0 + 20 * b 1 + b 2) + l := by omega
  rw [e]
theorem c235 {hi : Nat → Nat → Int32} {k : Nat} (hk : k < 64000) (kk : ∀ hi2, (∀ a b, ¬ a = 132 → hi2 a b = hi a b) → hi2 132 0 = nI (k / 8 / 400) → hi2 132 1 = nI (k / 8 / 20 % 20) → hi2 132 2 = nI (k / 8 % 20) → RV hi2 hl v) : rx_CV L t 235 [.ref 90, .int (nI k)] hi hl v RV := by
  have stp : ∀ i n (hi' : Nat → Nat → Int32), i < 3 → n < 2 ^ 31 → rx_aw 235 7 [.ref 90, .int (nI k), .int (nI (n / 20)), .int (oI i)] [] (rx_hp L t (rx_u hi' 132 i (nI (n % 20))) hl v) (fun r h2 => r = none ∧ rx_ok2 L t h2 RV) → rx_aw 235 7 [.ref 90, .int (nI k), .int (nI n), .int (nI i)] [] (rx_hp L t hi' hl v) (fun r h2 => r = none ∧ rx_ok2 L t h2 RV) := by
    intro i n hi' hi3 hn kk
    have em1 : nI i + (-1) = oI i := by
      cases i with
      | zero => rfl
      | succ e => rw [cf_oS, ← nI_add e 1, Int32.add_assoc]; exact (congrArg (fun z => nI e + z) (show (nI 1 : Int32) + -1 = 0 by decide)).trans (by show nI e + 0 = nI e; exact nI_add e 0)
    refine w235_openState_r_7 ⟨fun q => ?_, fun _ => ⟨i, rfl, hi3, ?_⟩⟩
    · rw [cf_lt, nI_toInt (by omega), show (0 : Int32).toInt = 0 from rfl] at q; omega
    · rw [show (20 : Int32) = nI 20 from rfl, cf_nmod hn (by decide), cf_ndiv hn (by decide), em1]; exact kk
  have e8 : nI k / 8 = nI (k / 8) := by rw [show (8 : Int32) = nI 8 from rfl, cf_ndiv (by omega) (by decide)]
  refine w235_openState_r ?_
  rw [e8]
  refine stp 2 (k / 8) hi (by omega) (by omega) ?_
  rw [show oI 2 = nI 1 from rfl]
  refine stp 1 _ _ (by omega) (by omega) ?_
  rw [show oI 1 = nI 0 from rfl]
  refine stp 0 _ _ (by omega) (by omega) (w235_openState_r_7 ⟨fun _ => c_retV (kk _ (fun a b q => ?_) ?_ ?_ ?_), fun q => absurd (by decide) q⟩)
  · rw [cf_ru_ne (by omega), cf_ru_ne (by omega), cf_ru_ne (by omega)]
  · rw [cf_ru_eq]
    have e : k / 8 / 20 / 20 % 20 = k / 8 / 400 := by omega
    rw [e]
  · rw [cf_ru_ne (by omega), cf_ru_eq]
  · rw [cf_ru_ne (by omega), cf_ru_ne (by omega), cf_ru_eq]
/-- whether a step of all may be made -/
def cf_iS (S : cf_S) (u : Nat → Nat) (hl : Nat → Nat → Int64) (a b : Nat → Nat) (i : Nat) : Prop := ∀ i', i' < i → cf_has (hl 131 i') (cf_sk S (b i')) = false ∧ ∀ j, j < i' → ¬ b i' = b j ∧ ¬ (b i' = a j ∧ b j = a i')
theorem c237 {hi : Nat → Nat → Int32} {S : cf_S} {u : Nat → Nat} (R : cf_Fr S u hi hl) {a b : Nat → Nat} (hn : cf_rk S 64 ≤ 20) (ha : ∀ i, i < cf_gr u → hi 132 i = nI (a i) ∧ a i < 20) (hb : ∀ i, i < cf_gr u → hi 133 i = nI (b i) ∧ b i < cf_rk S 64) (k : ∀ z : Bool, (z = true ↔ cf_iS S u hl a b (cf_gr u)) → RI (cf_B z) hi hl v) : rx_CI L t 237 [.ref 90] hi hl v RI := by
  have g3 := cf_gr_le u
  have hg := R.2.1
  have l4 : ∀ d i, i + d = cf_gr u → ∀ z : Bool, (z = true ↔ cf_iS S u hl a b i) → rx_aw 237 4 [.ref 90, .int (cf_B z), .int (nI i), rx_no] [] (rx_hp L t hi hl v) (fun r h2 => ∃ z : Int32, r = some (.int z) ∧ rx_ok2 L t h2 (RI z)) := by
    intro d
    induction d with
    | zero =>
      intro i hid z hz
      have : i = cf_gr u := by omega
      subst this
      refine w237_isStep_r_4 ⟨fun _ => ⟨cf_B01 z, c_retI (k z hz)⟩, fun q => absurd ?_ q⟩
      rw [hg, cf_nle (by omega) (by omega)]; omega
    | succ d ih =>
      intro i hid z hz
      have hi3 : i < 3 := by omega
      obtain ⟨b1, b2⟩ := hb i (by omega)
      obtain ⟨s1, s2, s3⟩ := cf_sk_ok b2
      refine w237_isStep_r_4 ⟨fun q => ?_, fun _ => ⟨i, rfl, hi3, i, rfl, hi3, b i, b1, by omega, ?_⟩⟩
      · rw [hg, cf_nle (by omega) (by omega)] at q; omega
      have l48 : ∀ d2 j, j + d2 = i → ∀ z : Bool, (z = true ↔ cf_iS S u hl a b i ∧ cf_has (hl 131 i) (cf_sk S (b i)) = false ∧ ∀ j', j' < j → ¬ b i = b j' ∧ ¬ (b i = a j' ∧ b j' = a i)) → rx_aw 237 48 [.ref 90, .int (cf_B z), .int (nI i), .int (nI j)] [] (rx_hp L t hi hl v) (fun r h2 => ∃ z : Int32, r = some (.int z) ∧ rx_ok2 L t h2 (RI z)) := by
        intro d2
        induction d2 with
        | zero =>
          intro j hjd z hz
          refine w237_isStep_r_48 ⟨fun _ => ?_, fun q => absurd ?_ q⟩
          · rw [show nI i + 1 = nI (i + 1) from nI_add i 1]
            refine ih (i + 1) (by omega) z (hz.trans ⟨fun ⟨h1, h2, h3⟩ i' hi' => ?_, fun h => ⟨fun i' hi' => h i' (by omega), (h i (by omega)).1, fun j' hj' => (h i (by omega)).2 j' (by omega)⟩⟩)
            by_cases w : i' = i
            · subst w; exact ⟨h2, fun j' hj' => h3 j' (by omega)⟩
            · exact h1 i' (by omega)
          · rw [cf_nle (by omega) (by omega)]; omega
        | succ d2 ih2 =>
          intro j hjd z hz
          have hj3 : j < 3 := by omega
          obtain ⟨c1, c2⟩ := hb j (by omega)
          obtain ⟨a1, a2⟩ := ha j (by omega)
          obtain ⟨d1, d2'⟩ := ha i (by omega)
          have nx : ∀ z' : Bool, (z' = true ↔ z = true ∧ ¬ b i = b j ∧ ¬ (b i = a j ∧ b j = a i)) → rx_aw 237 48 [.ref 90, .int (cf_B z'), .int (nI i), .int (nI j + 1)] [] (rx_hp L t hi hl v) (fun r h2 => ∃ z : Int32, r = some (.int z) ∧ rx_ok2 L t h2 (RI z)) := by
            intro z' hz'
            rw [show nI j + 1 = nI (j + 1) from nI_add j 1]
            refine ih2 (j + 1) (by omega) z' ?_
            rw [hz', hz]
            constructor
            · rintro ⟨⟨h1, h2, h3⟩, h4⟩
              refine ⟨h1, h2, fun j' hj' => ?_⟩
              by_cases w : j' = j
              · subst w; exact h4
              · exact h3 j' (by omega)
            · rintro ⟨h1, h2, h3⟩
              exact ⟨⟨h1, h2, fun j' hj' => h3 j' (by omega)⟩, h3 j (by omega)⟩
          have no : ∀ (h : ¬ (¬ b i = b j ∧ ¬ (b i = a j ∧ b j = a i))), rx_aw 237 48 [.ref 90, .int (cf_B z &&& 0), .int (nI i), .int (nI j + 1)] [] (rx_hp L t hi hl v) (fun r h2 => ∃ z : Int32, r = some (.int z) ∧ rx_ok2 L t h2 (RI z)) := fun h => by
            rw [cf_Band0]
            exact nx false ⟨fun w => Bool.noConfusion w, fun w => absurd w.2 h⟩
          have yes : ∀ (h : ¬ b i = b j ∧ ¬ (b i = a j ∧ b j = a i)), rx_aw 237 48 [.ref 90, .int (cf_B z &&& 1), .int (nI i), .int (nI j + 1)] [] (rx_hp L t hi hl v) (fun r h2 => ∃ z : Int32, r = some (.int z) ∧ rx_ok2 L t h2 (RI z)) := fun h => by
            rw [cf_Band1]
            exact nx z ⟨fun w => ⟨w, h⟩, fun w => w.1⟩
          refine w237_isStep_r_48 ⟨fun q => ?_, fun _ => ⟨i, rfl, hi3, j, rfl, hj3, fun q => no ?_, fun q => ⟨i, rfl, hi3, j, rfl, hj3, fun q2 => ⟨j, rfl, hj3, i, rfl, hi3, fun q3 => no ?_, fun q3 => yes ?_⟩, fun q2 => yes ?_⟩⟩⟩
          · rw [cf_nle (by omega) (by omega)] at q; omega
          all_goals rw [b1, c1, nI_eq (by omega) (by omega)] at q
          · exact fun w => w.1 q
          all_goals rw [b1, a1, nI_eq (by omega) (by omega)] at q2
          · rw [c1, d1, nI_eq (by omega) (by omega)] at q3
            exact fun w => w.2 ⟨q2, q3⟩
          · rw [c1, d1, nI_eq (by omega) (by omega)] at q3
            exact ⟨q, fun w => q3 w.2⟩
          · exact ⟨q, fun w => q2 w.1⟩
      rw [R.2.2.2.1 _ b2]
      refine c169 s1 ?_
      rw [cf_cmp0, cf_ab s1]
      refine ⟨fun q => ?_, fun q => ?_⟩
      · rw [cf_Band1]
        exact l48 i 0 (by omega) z ⟨fun w => ⟨hz.mp w, q, fun j' hj' => by omega⟩, fun w => hz.mpr w.1⟩
      · rw [cf_Band0]
        exact l48 i 0 (by omega) false ⟨fun w => Bool.noConfusion w, fun w => absurd w.2.1 q⟩
  exact w237_isStep_r (l4 (cf_gr u) 0 (by omega) true ⟨fun _ i' hi' => by omega, fun _ => rfl⟩)
end RXE
