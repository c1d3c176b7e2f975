/-! mark, copy of both. -/
theorem cf_narb (x : Int32) : vp_nar .byte x = x.toInt8.toInt32 := rfl
theorem cf_narb2 (x : Int32) : vp_nar .byte (x.toInt8.toInt32) = x.toInt8.toInt32 := by rw [cf_narb, Int8.toInt8_toInt32]
theorem cf_fitb (x : Int32) : fits .byte (.int (x.toInt8.toInt32)) = true := by
  have e : (x.toInt8.toInt32).toInt = x.toInt8.toInt := Int8.toInt_toInt32 _
  have h1 := Int8.le_toInt x.toInt8
  have h2 := Int8.toInt_lt x.toInt8
  have m1 : ((-128 : Int32)).toInt = -128 := rfl
  have m2 : ((127 : Int32)).toInt = 127 := rfl
  show (decide (_ ≤ _) && decide (_ ≤ _)) = true
  rw [Bool.and_eq_true, decide_eq_true_iff, decide_eq_true_iff, cf_le', cf_le', e, m1, m2]
  omega
def cf_mkz (w h : Nat) (r : Nat → Nat) (a0 a1 : Int32) : Option Int32 := if ¬ (0 ≤ a1.toInt ∧ a1.toInt < h) then some (-11) else if ¬ r a1.toInt.toNat = 0 then some (-10) else if ¬ (0 ≤ a0.toInt ∧ a0.toInt < w) then some (-11) else none
section RXE
variable {L : Nat} {t : List (Nat × Nat)} {hi : Nat → Nat → Int32} {hl : Nat → Nat → Int64} {v : Nat → Nat → Option Nat}
variable {RI : Int32 → (Nat → Nat → Int32) → (Nat → Nat → Int64) → (Nat → Nat → Option Nat) → Prop}
theorem cf_ix {w h y x : Nat} (hw : w ≤ 8) (hh : h ≤ 8) (hy : y < h) (hx : x < w) : y * w + x < 64 := by
  have : (y + 1) * w ≤ h * w := Nat.mul_le_mul_right _ hy
  have : h * w ≤ 8 * 8 := Nat.mul_le_mul hh hw
  rw [Nat.succ_mul] at *
  omega
theorem c148 {S : cf_S} (X : cf_XR S hi hl) {a0 a1 a2 : Int32} (kr : ∀ z, cf_mkz (S 0 0) (S 0 1) (S 2) a0 a1 = some z → RI z hi hl v)
    (kg : cf_mkz (S 0 0) (S 0 1) (S 2) a0 a1 = none → ∀ x y, a0 = nI x → a1 = nI y → x < S 0 0 → y < S 0 1 → S 2 y = 0 → RI (hi 89 (y * S 0 0 + x) + 1000) (rx_u hi 89 (y * S 0 0 + x) (a2.toInt8.toInt32)) hl v) : rx_CI L t 148 [.ref 1, .int a0, .int a1, .int a2] hi hl v RI := by
  have V := X.1.1
  have K1 := X.1.2.1
  have hw := V.1
  have hh := V.2.1
  have mi := X.1.2.2.2.2.2.2.1
  unfold cf_mkz at kr kg
  refine w148_mark (c27 K1 ⟨fun g => c_retI (kr _ ?_), fun g => ?_⟩)
  · rw [if_pos (of_decide_eq_false (cf_B_eq g))]
  have hy := of_decide_eq_true (cf_B_ne g)
  obtain ⟨ey, _⟩ := cf_x (x := a1) hy.1
  have hyl : a1.toInt.toNat < S 0 1 := by omega
  rw [if_neg (fun q => q hy)] at kr kg
  have em := mi a1.toInt.toNat (by omega)
  have hm1 := V.2.2.2.2.2.1 a1.toInt.toNat
  refine ⟨a1.toInt.toNat, ey, by omega, fun g2 => ?_, fun g2 => c_retI (kr _ ?_)⟩
  all_goals rw [em, show (0 : Int32) = nI 0 from rfl, nI_eq (by omega) (by omega)] at g2
  · rw [if_neg (fun q => q g2)] at kr kg
    by_cases hx : 0 ≤ a0.toInt ∧ a0.toInt < S 0 0
    · obtain ⟨ex, _⟩ := cf_x (x := a0) hx.1
      have en : cf_num (S 0 0) (S 0 1) a0 a1 = a1.toInt.toNat * S 0 0 + a0.toInt.toNat + 1 := by unfold cf_num; rw [if_pos ⟨hx.1, hx.2, hy.1, hy.2⟩]
      have lt := cf_ix hw.2 hh.2 hyl (show a0.toInt.toNat < S 0 0 by omega)
      refine c26 K1 ?_
      rw [en, cf_oS]
      refine ⟨fun g3 => ⟨_, rfl, lt, _, rfl, lt, c_retI ?_⟩, fun g3 => absurd ?_ g3⟩
      · rw [cf_narb2]
        exact kg (by rw [if_neg (fun q => q hx)]) _ _ ex ey (by omega) hyl g2
      · rw [show (0 : Int32) = nI 0 from rfl, cf_nle (by omega) (by omega)]; omega
    · have en : cf_num (S 0 0) (S 0 1) a0 a1 = 0 := by unfold cf_num; rw [if_neg (fun q => hx ⟨q.1, q.2.1⟩)]
      refine c26 K1 ?_
      rw [en]
      exact ⟨fun g3 => absurd g3 (by decide), fun g3 => c_retI (kr _ (by rw [if_pos hx]))⟩
  · rw [if_pos g2]
theorem c241 {S : cf_S} (V : cf_V S) (M : cf_M S hi) {a0 a1 a2 : Int32} (kr : ∀ z, cf_mkz (S 0 0) (S 0 1) (S 2) a0 a1 = some z → RI z hi hl v)
    (kg : cf_mkz (S 0 0) (S 0 1) (S 2) a0 a1 = none → ∀ x y, a0 = nI x → a1 = nI y → x < S 0 0 → y < S 0 1 → RI (1000 + hi 112 (8 * y + x)) (rx_u hi 112 (8 * y + x) (a2.toInt8.toInt32)) hl v) : rx_CI L t 241 [.ref 90, .int a0, .int a1, .int a2] hi hl v RI := by
  have hw := V.1
  have hh := V.2.1
  obtain ⟨⟨_, _, _, _, e0, e1, _⟩, _, _, _, mi, _, _⟩ := M
  have h0 : ((0 : Int32)).toInt = 0 := rfl
  unfold cf_mkz at kr kg
  refine w241_mark_r ⟨fun g => c_retI (kr _ ?_), fun g => ⟨fun g2 => ⟨a1.toInt.toNat, ?_, ?_, fun g3 => ⟨fun g4 => c_retI (kr _ ?_), fun g4 => ⟨fun g5 => ?_, fun g5 => c_retI (kr _ ?_)⟩⟩, fun g3 => c_retI (kr _ ?_)⟩, fun g2 => c_retI (kr _ ?_)⟩⟩
  · rw [cf_lt] at g; rw [if_pos (by omega)]
  all_goals rw [cf_lt] at g
  all_goals rw [e1, cf_lt, nI_toInt (by omega)] at g2
  · exact (cf_x (x := a1) (by omega)).1
  · omega
  all_goals try have hm1 := V.2.2.2.2.2.1 a1.toInt.toNat
  all_goals try rw [mi _ (by omega), show (0 : Int32) = nI 0 from rfl, nI_eq (by omega) (by omega)] at g3
  · rw [cf_lt] at g4
    rw [if_neg (by omega), if_neg (fun q => q g3), if_pos (by omega)]
  · rw [cf_lt] at g4
    rw [e0, cf_lt, nI_toInt (by omega)] at g5
    obtain ⟨ex, _⟩ := cf_x (x := a0) (by omega)
    obtain ⟨ey, _⟩ := cf_x (x := a1) (by omega)
    have ix : (8 : Int32) * a1 + a0 = nI (8 * a1.toInt.toNat + a0.toInt.toNat) := by
      rw [← nI_add, ← cf_nmul, ← ex, ← ey]; rfl
    refine ⟨_, ix, by omega, _, ix, by omega, c_retI ?_⟩
    exact kg (by rw [if_neg (by omega), if_neg (fun q => q g3), if_neg (by omega)]) _ _ ex ey (by omega) (by omega)
  · rw [e0, cf_lt, nI_toInt (by omega)] at g5
    rw [if_neg (by omega), if_neg (fun q => q g3), if_pos (by omega)]
  · rw [if_neg (by omega), if_pos g3]
  · rw [if_pos (by omega)]
end RXE
/-- rows of a table -/
theorem cf_rix {w r k o p : Nat} (hk : k < w) (hp : p < w) : r * w + k = o * w + p ↔ r = o ∧ k = p := by
  constructor
  · intro h
    rcases Nat.lt_trichotomy r o with q | q | q
    · have : (r + 1) * w ≤ o * w := Nat.mul_le_mul_right _ q
      rw [Nat.succ_mul] at this; omega
    · subst q; exact ⟨rfl, by omega⟩
    · have : (o + 1) * w ≤ r * w := Nat.mul_le_mul_right _ q
      rw [Nat.succ_mul] at this; omega
  · rintro ⟨rfl, rfl⟩; rfl
theorem cf_pr_mark {L : Nat} {t : List (Nat × Nat)} (a0 a1 a2 : Int32) : cf_pr L t 148 241 [.int a0, .int a1, .int a2] := by
  intro S ls hi hl v R
  obtain ⟨I, A, Z, E⟩ := id R
  have V := I.1
  have M := Z.1.2.2.1
  obtain ⟨E1, E2, E3, E4, E5, E6⟩ := E
  refine c148 A.1 (fun z q => c241 V M (fun z2 q2 => ⟨?_, S, ls, R⟩) (fun q2 => ?_)) (fun q x y ex ey hx hy hm => c241 V (cf_M_ext M (fun a b q1 q2 q3 => cf_ru_ne (by omega))) (fun z2 q2 => ?_) (fun _ x' y' ex' ey' hx' hy' => ?_))
  · rw [q] at q2; cases q2; rfl
  · rw [q] at q2; cases q2
  · rw [q] at q2; cases q2
  · have hw := V.1
    have hh := V.2.1
    rw [ex, nI_eq (by omega) (by omega)] at ex'
    rw [ey, nI_eq (by omega) (by omega)] at ey'
    subst ex' ey'
    have lt := cf_ix hw.2 hh.2 hy hx
    refine ⟨?_, cf_rel_E R (fun a b q => ?_) ⟨?_, ?_, ?_, ⟨fun r k hr hk => ?_, fun j hj => ?_⟩, ?_, E6⟩⟩
    · rw [cf_ru_ne (by omega), (E4.1 y x hy hx).1, Int32.add_comm]
    · unfold cf_er at q; rw [cf_ru_ne (by omega), cf_ru_ne (by omega)]
    · rw [cf_ru_ne (by omega), cf_ru_ne (by omega), cf_ru_ne (by omega), cf_ru_ne (by omega)]; exact E1
    · refine cf_Et_ext E2 ?_ ?_ ?_ ?_ <;> (try intro b) <;> rw [cf_ru_ne (by omega), cf_ru_ne (by omega)]
    · refine cf_Eh_ext E3 ?_ ?_ ?_ ?_ <;> intro b <;> rw [cf_ru_ne (by omega), cf_ru_ne (by omega)]
    · by_cases z : r = y ∧ k = x
      · obtain ⟨rfl, rfl⟩ := z
        refine ⟨?_, fun q => by rw [hm] at q; cases q⟩
        rw [cf_ru_eq, cf_ru_ne (by omega), cf_ru_eq]
      · have n1 : ¬ (r * S 0 0 + k = y * S 0 0 + x) := fun q => z ((cf_rix hk hx).mp q)
        rw [cf_ru_ne (by omega), cf_ru_ne (by omega), cf_ru_ne (by omega), cf_ru_ne (by omega)]
        exact E4.1 r k hr hk
    · rw [cf_ru_ne (by omega)]
      by_cases z : j = y * S 0 0 + x
      · subst z; rw [cf_ru_eq]; exact cf_fitb a2
      · rw [cf_ru_ne (by omega)]; exact E4.2 j hj
    · refine cf_El_ext E5 ?_ ?_ ?_ ?_ ?_ (fun _ => rfl) <;> (try intro b) <;> rw [cf_ru_ne (by omega), cf_ru_ne (by omega)]
