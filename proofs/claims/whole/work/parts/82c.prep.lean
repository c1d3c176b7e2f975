/-! few: seats, stands of the others (class). -/
def cf_Sk (S : cf_S) (hi : Nat → Nat → Int32) : Prop := hi 134 10 = nI (cf_rk S 64) ∧ ∀ q, q < 64 → cf_fs S q = true → hi 135 (cf_rk S q) = nI q
theorem cf_fs_m {S : cf_S} {hi : Nat → Nat → Int32} {hl : Nat → Nat → Int64} (X : cf_XR S hi hl) {q : Nat} (hq : q < 64) : cf_has ((hl 7 2) &&& ((hl 7 10) ^^^ -1)) q = cf_fs S q := by
  have V := X.1.1
  have K3 := X.1.2.2.2.1
  rw [cf_hand, cf_hnot, (K3 q hq).1, X.1.2.2.2.2.2.2.2, decide_eq_true hq, Bool.true_and]
  unfold cf_fs
  by_cases z : q < S 0 0 * S 0 1
  · rw [cf_has_bar V z]
  · rw [decide_eq_false z]; rfl
theorem cf_Sk_at {S : cf_S} {hi : Nat → Nat → Int32} (K : cf_Sk S hi) {p : Nat} (hp : p < cf_rk S 64) : hi 135 p = nI (cf_sk S p) := by
  obtain ⟨a, b, c⟩ := cf_sk_ok hp
  have := K.2 _ a b
  rw [c] at this; exact this
theorem cf_Sk_ext {S : cf_S} {hi hi2 : Nat → Nat → Int32} (K : cf_Sk S hi) (F : ∀ a b, 134 ≤ a → a ≤ 135 → hi2 a b = hi a b) : cf_Sk S hi2 := ⟨(F _ _ (by omega) (by omega)).trans K.1, fun q h1 h2 => (F _ _ (by omega) (by omega)).trans (K.2 q h1 h2)⟩
section RXE
variable {L : Nat} {hl : Nat → Nat → Int64} {v : Nat → Nat → Option Nat}
variable {RI : Int32 → (Nat → Nat → Int32) → (Nat → Nat → Int64) → (Nat → Nat → Option Nat) → Prop}
variable {RL : Int64 → (Nat → Nat → Int32) → (Nat → Nat → Int64) → (Nat → Nat → Option Nat) → Prop}
variable {RV : (Nat → Nat → Int32) → (Nat → Nat → Int64) → (Nat → Nat → Option Nat) → Prop}
theorem c125 {hi0 : Nat → Nat → Int32} {S : cf_S} (X : cf_XR S hi0 hl) (hn : cf_rk S 64 ≤ 20) (k : ∀ hi2, (∀ a b, ¬ a = 134 → ¬ a = 135 → hi2 a b = hi0 a b) → cf_Sk S hi2 → RV hi2 hl v) : rx_CV L rx_tr 125 [.ref 134] hi0 hl v RV := by
  have lp : ∀ d q, q + d = 64 → ∀ hi : Nat → Nat → Int32, (∀ a b, ¬ a = 134 → ¬ a = 135 → hi a b = hi0 a b) → hi 134 10 = nI (cf_rk S q) → (∀ q', q' < q → cf_fs S q' = true → hi 135 (cf_rk S q') = nI q') → rx_aw 125 7 [.ref 134, .int (nI q)] [] (rx_hp L rx_tr hi hl v) (fun r h2 => r = none ∧ rx_ok2 L rx_tr h2 RV) := by
    intro d
    induction d with
    | zero =>
      intro q hqd hi F e W
      have : q = 64 := by omega
      subst this
      exact w125_findSeats_7 ⟨fun _ => c_retV (k hi F ⟨e, W⟩), fun g => absurd (by decide) g⟩
    | succ d ih =>
      intro q hqd hi F e W
      have hq : q < 64 := by omega
      have le : cf_rk S q ≤ cf_rk S 64 := by
        have := cf_rk_le (S := S) (q := q) (64 - q)
        rw [show q + (64 - q) = 64 by omega] at this; exact this
      refine w125_findSeats_7 ⟨fun g => ?_, fun _ => c9 hq ?_⟩
      · rw [show (64 : Int32) = nI 64 from rfl, cf_nle (by omega) (by omega)] at g; omega
      rw [cf_cmp0, cf_ab hq, cf_fs_m X hq, show nI q + 1 = nI (q + 1) from nI_add q 1]
      refine ⟨fun g => ?_, fun g => ⟨fun g2 => ?_, fun g2 => ⟨cf_rk S q, e, ?_, ?_⟩⟩⟩
      · refine ih (q + 1) (by omega) hi F (by rw [cf_rk_s, g]; exact e) (fun q' h1 h2 => ?_)
        by_cases z : q' = q
        · subst z; rw [g] at h2; cases h2
        · exact W q' (by omega) h2
      all_goals have g : cf_fs S q = true := by rw [cf_not_true] at g; exact Classical.not_not.mp g
      all_goals have lt := cf_rk_lt hq g
      · rw [e, show (20 : Int32) = nI 20 from rfl, cf_nle (by omega) (by omega)] at g2; omega
      · omega
      · have e2 : rx_u hi 135 (cf_rk S q) (nI q) 134 10 = nI (cf_rk S q) := by rw [cf_ru_ne (by omega)]; exact e
        rw [e2, show nI (cf_rk S q) + 1 = nI (cf_rk S q + 1) from nI_add _ 1]
        refine ih (q + 1) (by omega) _ (fun a b q1 q2 => by rw [cf_ru_ne (by omega), cf_ru_ne (by omega)]; exact F a b q1 q2) ?_ (fun q' h1 h2 => ?_)
        · rw [cf_ru_eq, cf_rk_s, g]; rfl
        · rw [cf_ru_ne (by omega)]
          by_cases z : q' = q
          · subst z; exact cf_ru_eq
          · have := cf_rk_lt (show q' < q by omega) h2
            rw [cf_ru_ne (by omega)]; exact W q' (by omega) h2
  refine w125_findSeats (lp 64 0 (by omega) _ (fun a b q1 q2 => cf_ru_ne (by omega)) cf_ru_eq (fun q' h => by omega))
theorem c129 {hi : Nat → Nat → Int32} {S : cf_S} (K : cf_Sk S hi) (hn : cf_rk S 64 ≤ 20) {q : Nat} (hq : q < 64) (k : RI (oI (if cf_fs S q = true then cf_rk S q + 1 else 0)) hi hl v) : rx_CI L rx_tr 129 [.ref 134, .int (nI q)] hi hl v RI := by
  have lp : ∀ d i, i + d = cf_rk S 64 → (∀ i', i' < i → ¬ cf_sk S i' = q) → rx_aw 129 2 [.ref 134, .int (nI q), .int (nI i)] [] (rx_hp L rx_tr hi hl v) (fun r h2 => ∃ z : Int32, r = some (.int z) ∧ rx_ok2 L rx_tr h2 (RI z)) := by
    intro d
    induction d with
    | zero =>
      intro i hid W
      refine w129_seatOf_2 ⟨fun _ => c_retIe k ?_, fun g => absurd ?_ g⟩
      · by_cases z : cf_fs S q = true
        · exact absurd (cf_sk_rk hq z) (W _ (by have := cf_rk_lt hq z; omega))
        · rw [if_neg z]; rfl
      · rw [K.1, cf_nle (by omega) (by omega)]; omega
    | succ d ih =>
      intro i hid W
      have at_ := cf_Sk_at K (p := i) (by omega)
      obtain ⟨a, b, c⟩ := cf_sk_ok (S := S) (k := i) (by omega)
      refine w129_seatOf_2 ⟨fun g => ?_, fun _ => ⟨i, rfl, by omega, fun g => c_retIe k ?_, fun g => ?_⟩⟩
      · rw [K.1, cf_nle (by omega) (by omega)] at g; omega
      · rw [at_, nI_eq (by omega) (by omega)] at g
        subst g
        rw [if_pos b, c, cf_oS]
      · rw [at_, nI_eq (by omega) (by omega)] at g
        rw [show nI i + 1 = nI (i + 1) from nI_add i 1]
        refine ih (i + 1) (by omega) (fun i' h => ?_)
        by_cases z : i' = i
        · subst z; exact g
        · exact W i' (by omega)
  exact w129_seatOf (lp (cf_rk S 64) 0 (by omega) (fun i' h => by omega))
theorem c126 {hi : Nat → Nat → Int32} {S : cf_S} (X : cf_XR S hi hl) {u : Nat → Nat} (hu : ∀ i, u i ≤ 6) (k : RL (cf_sto S u) hi hl v) : rx_CL L rx_tr 126 [.ref 134, .int (oI (u 0)), .int (oI (u 1)), .int (oI (u 2))] hi hl v RL := by
  have V := X.1.1
  have C := X.1.2.2.2.2.1
  have h6 := V.2.2.1
  have u0 := hu 0
  have u1 := hu 1
  have u2 := hu 2
  have lp : ∀ d i, i + d = S 0 2 → rx_aw 126 6 [.ref 134, .int (oI (u 0)), .int (oI (u 1)), .int (oI (u 2)), .long (cf_un (fun o => if o + 1 = u 0 ∨ o + 1 = u 1 ∨ o + 1 = u 2 then 0 else cf_sd S 0 o) i), rx_no, .int (nI i)] [] (rx_hp L rx_tr hi hl v) (fun r h2 => ∃ z : Int64, r = some (.long z) ∧ rx_ok2 L rx_tr h2 (RL z)) := by
    intro d
    induction d with
    | zero =>
      intro i hid
      have : i = S 0 2 := by omega
      subst this
      refine w126_stoodByOthers_6 ⟨fun _ => c_retL k, fun g => absurd ?_ g⟩
      rw [C.1, cf_nle (by omega) (by omega)]; omega
    | succ d ih =>
      intro i hid
      have nx := ih (i + 1) (by omega)
      rw [cf_un] at nx
      have hoe : ∀ a : Nat, a ≤ 6 → (nI i = oI a ↔ i + 1 = a) := fun a ha => by
        rw [eq_comm, cf_oneq (by omega) (by omega)]; omega
      have t0 : i + 1 = u 0 ∨ i + 1 = u 1 ∨ i + 1 = u 2 → rx_aw 126 6 [.ref 134, .int (oI (u 0)), .int (oI (u 1)), .int (oI (u 2)), .long (cf_un (fun o => if o + 1 = u 0 ∨ o + 1 = u 1 ∨ o + 1 = u 2 then 0 else cf_sd S 0 o) i), rx_no, .int (nI i + 1)] [] (rx_hp L rx_tr hi hl v) (fun r h2 => ∃ z : Int64, r = some (.long z) ∧ rx_ok2 L rx_tr h2 (RL z)) := fun z => by
        rw [if_pos z, cf_or0] at nx
        rw [show nI i + 1 = nI (i + 1) from nI_add i 1]; exact nx
      refine w126_stoodByOthers_6 ⟨fun g => ?_, fun _ => ⟨fun g => t0 ?_, fun g => ⟨fun g2 => t0 ?_, fun g2 => ⟨fun g3 => t0 ?_, fun g3 => ⟨i, rfl, by omega, 0, rfl, by omega, ?_⟩⟩⟩⟩⟩
      · rw [C.1, cf_nle (by omega) (by omega)] at g; omega
      · rw [hoe _ u0] at g; exact Or.inl g
      · rw [hoe _ u1] at g2; exact Or.inr (Or.inl g2)
      · rw [hoe _ u2] at g3; exact Or.inr (Or.inr g3)
      · rw [hoe _ u0] at g
        rw [hoe _ u1] at g2
        rw [hoe _ u2] at g3
        rw [if_neg (by omega)] at nx
        rw [((X.2.2.1 i (by omega)).1 0 (by omega)).2.1, show nI i + 1 = nI (i + 1) from nI_add i 1]
        exact nx
  exact w126_stoodByOthers (lp (S 0 2) 0 (by omega))
theorem c128a {hi0 : Nat → Nat → Int32} {a b : Nat} {y : Int32} (hab : a ≤ b) (hb : b ≤ 315) (k : ∀ hi2, (∀ i j, ¬ i = 136 → hi2 i j = hi0 i j) → (∀ j, hi2 136 j = if a ≤ j ∧ j < b then y else hi0 136 j) → RV hi2 hl v) :
    rx_CV L rx_tr 128 [.ref 136, .int (nI a), .int (nI b), .int y] hi0 hl v RV := by
  have lp : ∀ d i, i + d = b → a ≤ i → ∀ hi : Nat → Nat → Int32, (∀ x y, ¬ x = 136 → hi x y = hi0 x y) → (∀ j, hi 136 j = if a ≤ j ∧ j < i then y else hi0 136 j) → rx_aw 128 10 [.ref 136, .int (nI a), .int (nI b), .int y, .int (nI i)] [] (rx_hp L rx_tr hi hl v) (fun r h2 => r = none ∧ rx_ok2 L rx_tr h2 RV) := by
    intro d
    induction d with
    | zero =>
      intro i hid hai hi F W
      have : i = b := by omega
      subst this
      refine w128_fill_at136_10 ⟨fun g => c_retV (k hi F W), fun g => absurd ?_ g⟩
      rw [cf_nle (by omega) (by omega)]; omega
    | succ d ih =>
      intro i hid hai hi F W
      refine w128_fill_at136_10 ⟨fun g => ?_, fun g => ⟨i, rfl, by omega, ?_⟩⟩
      · rw [cf_nle (by omega) (by omega)] at g; omega
      · rw [show nI i + 1 = nI (i + 1) from nI_add i 1]
        refine ih (i + 1) (by omega) (by omega) _ (fun x y q => ?_) (fun j => ?_)
        · rw [cf_ru_ne (by omega)]; exact F x y q
        · by_cases e : j = i
          · subst e; rw [cf_ru_eq, if_pos (by omega)]
          · rw [cf_ru_ne (by omega), W j]
            by_cases z : a ≤ j ∧ j < i
            · rw [if_pos z, if_pos (by omega)]
            · rw [if_neg z, if_neg (by omega)]
  refine w128_fill_at136 (w33_rangeCheck ⟨fun _ => ⟨fun _ => ⟨fun _ => c_retV (lp (b - a) a (by omega) (Nat.le_refl _) hi0 (fun _ _ _ => rfl) (fun j => by rw [if_neg (by omega)])), fun g => g ?_⟩, fun g => g ?_⟩, fun g => g ?_⟩)
  · rw [show (315 : Int32) = nI 315 from rfl, cf_nle (by omega) (by omega)]; omega
  · rw [show (0 : Int32) = nI 0 from rfl, cf_nle (by omega) (by omega)]; omega
  · rw [cf_nle (by omega) (by omega)]; omega
theorem c128b {hi0 : Nat → Nat → Int32} {a b : Nat} {y : Int32} (hab : a ≤ b) (hb : b ≤ 63) (k : ∀ hi2, (∀ i j, ¬ i = 137 → hi2 i j = hi0 i j) → (∀ j, hi2 137 j = if a ≤ j ∧ j < b then y else hi0 137 j) → RV hi2 hl v) :
    rx_CV L rx_tr 128 [.ref 137, .int (nI a), .int (nI b), .int y] hi0 hl v RV := by
  have lp : ∀ d i, i + d = b → a ≤ i → ∀ hi : Nat → Nat → Int32, (∀ x y, ¬ x = 137 → hi x y = hi0 x y) → (∀ j, hi 137 j = if a ≤ j ∧ j < i then y else hi0 137 j) → rx_aw 128 10 [.ref 137, .int (nI a), .int (nI b), .int y, .int (nI i)] [] (rx_hp L rx_tr hi hl v) (fun r h2 => r = none ∧ rx_ok2 L rx_tr h2 RV) := by
    intro d
    induction d with
    | zero =>
      intro i hid hai hi F W
      have : i = b := by omega
      subst this
      refine w128_fill_at137_10 ⟨fun g => c_retV (k hi F W), fun g => absurd ?_ g⟩
      rw [cf_nle (by omega) (by omega)]; omega
    | succ d ih =>
      intro i hid hai hi F W
      refine w128_fill_at137_10 ⟨fun g => ?_, fun g => ⟨i, rfl, by omega, ?_⟩⟩
      · rw [cf_nle (by omega) (by omega)] at g; omega
      · rw [show nI i + 1 = nI (i + 1) from nI_add i 1]
        refine ih (i + 1) (by omega) (by omega) _ (fun x y q => ?_) (fun j => ?_)
        · rw [cf_ru_ne (by omega)]; exact F x y q
        · by_cases e : j = i
          · subst e; rw [cf_ru_eq, if_pos (by omega)]
          · rw [cf_ru_ne (by omega), W j]
            by_cases z : a ≤ j ∧ j < i
            · rw [if_pos z, if_pos (by omega)]
            · rw [if_neg z, if_neg (by omega)]
  refine w128_fill_at137 (w33_rangeCheck ⟨fun _ => ⟨fun _ => ⟨fun _ => c_retV (lp (b - a) a (by omega) (Nat.le_refl _) hi0 (fun _ _ _ => rfl) (fun j => by rw [if_neg (by omega)])), fun g => g ?_⟩, fun g => g ?_⟩, fun g => g ?_⟩)
  · rw [show (63 : Int32) = nI 63 from rfl, cf_nle (by omega) (by omega)]; omega
  · rw [show (0 : Int32) = nI 0 from rfl, cf_nle (by omega) (by omega)]; omega
  · rw [cf_nle (by omega) (by omega)]; omega
end RXE
