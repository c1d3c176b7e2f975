/-! copy of both. -/
def cf_cpz (w h : Nat) (r : Nat → Nat) (a0 a1 a2 a3 a4 : Int32) : Option Int32 := if ¬ (0 ≤ a0.toInt ∧ a0.toInt < h ∧ 0 ≤ a2.toInt ∧ a2.toInt < h) then some (-11) else if ¬ (r a0.toInt.toNat = 0 ∧ r a2.toInt.toNat = 0) then some (-10) else if ¬ (0 ≤ a1.toInt ∧ 0 ≤ a3.toInt ∧ 0 ≤ a4.toInt ∧ a1.toInt + a4.toInt ≤ w ∧ a3.toInt + a4.toInt ≤ w) then some (-11) else none
def cf_smk (g : Nat → Int32) (i : Nat) (x : Int32) : Int32 := x + g i
theorem cf_smk_add {g : Nat → Int32} (b : Int32) : ∀ (d i : Nat) (a : Int32), cf_fol (cf_smk g) d i (b + a) = cf_fol (cf_smk g) d i a + b
  | 0, _, a => Int32.add_comm b a
  | d + 1, i, a => by
    rw [cf_fol, cf_fol, ← cf_smk_add b d (i + 1)]
    unfold cf_smk
    rw [Int32.add_assoc]
theorem cf_fol_eq {α : Type} {f g : Nat → α → α} : ∀ (d i : Nat) (a : α), (∀ j x, i ≤ j → j < i + d → f j x = g j x) → cf_fol f d i a = cf_fol g d i a
  | 0, _, _, _ => rfl
  | d + 1, i, a, h => by
    rw [cf_fol, cf_fol, h i a (by omega) (by omega)]
    exact cf_fol_eq d (i + 1) _ (fun j x h1 h2 => h j x (by omega) (by omega))
section RXE
variable {L : Nat} {t : List (Nat × Nat)} {hi : Nat → Nat → Int32} {hl : Nat → Nat → Int64} {v : Nat → Nat → Option Nat}
variable {RI : Int32 → (Nat → Nat → Int32) → (Nat → Nat → Int64) → (Nat → Nat → Option Nat) → Prop}
theorem c151 {w h y : Nat} (hw : w ≤ 8) (hh : h ≤ 8) (hy : y < h) (e0 : hi 7 0 = nI w) (k : RI (cf_fol (cf_smk (fun x => hi 89 (y * w + x))) w 0 0) hi hl v) : rx_CI L t 151 [.ref 88, .int (nI y)] hi hl v RI := by
  refine w151_sumOf (cf_lpg (f := cf_smk (fun x => hi 89 (y * w + x))) (P := fun _ _ => True) (N := w) (A := fun n i => [.ref 88, .int (nI y), .int n, .int (nI i)]) (a0 := 0) trivial (fun _ _ _ _ => trivial) (fun i m hi0 _ q => ?_) (fun _ => ?_))
  · refine w151_sumOf_4 ⟨fun g => ?_, fun g => ⟨y * w + i, ?_, cf_ix hw hh hy hi0, ?_⟩⟩
    · rw [e0, cf_nle (by omega) (by omega)] at g; omega
    · rw [e0, cf_nmul, nI_add]
    · rw [show (1 : Int32) = nI 1 from rfl, nI_add]; exact q
  · refine w151_sumOf_4 ⟨fun g => c_retI k, fun g => absurd ?_ g⟩
    rw [e0, cf_nle (by omega) (by omega)]; omega
theorem cf_cpn {w h : Nat} {r : Nat → Nat} {a0 a1 a2 a3 a4 : Int32} (g : cf_cpz w h r a0 a1 a2 a3 a4 = none) : ∃ y x o p n, a0 = nI y ∧ a1 = nI x ∧ a2 = nI o ∧ a3 = nI p ∧ a4 = nI n ∧ y < h ∧ o < h ∧ x + n ≤ w ∧ p + n ≤ w ∧ r o = 0 := by
  unfold cf_cpz at g
  by_cases q1 : 0 ≤ a0.toInt ∧ a0.toInt < h ∧ 0 ≤ a2.toInt ∧ a2.toInt < h
  · rw [if_neg (fun q => q q1)] at g
    by_cases q2 : r a0.toInt.toNat = 0 ∧ r a2.toInt.toNat = 0
    · rw [if_neg (fun q => q q2)] at g
      by_cases q3 : 0 ≤ a1.toInt ∧ 0 ≤ a3.toInt ∧ 0 ≤ a4.toInt ∧ a1.toInt + a4.toInt ≤ w ∧ a3.toInt + a4.toInt ≤ w
      · exact ⟨_, _, _, _, _, (cf_x (x := a0) (by omega)).1, (cf_x (x := a1) (by omega)).1, (cf_x (x := a2) (by omega)).1, (cf_x (x := a3) (by omega)).1, (cf_x (x := a4) (by omega)).1, by omega, by omega, by omega, by omega, q2.2⟩
      · rw [if_pos q3] at g; cases g
    · rw [if_pos q2] at g; cases g
  · rw [if_pos q1] at g; cases g
theorem c149 {S : cf_S} (X : cf_XR S hi hl) (B : ∀ j, j < 64 → fits .byte (.int (hi 89 j)) = true) {a0 a1 a2 a3 a4 : Int32} (kr : ∀ z, cf_cpz (S 0 0) (S 0 1) (S 2) a0 a1 a2 a3 a4 = some z → RI z hi hl v)
    (kg : cf_cpz (S 0 0) (S 0 1) (S 2) a0 a1 a2 a3 a4 = none → ∀ y x o p n, a0 = nI y → a1 = nI x → a2 = nI o → a3 = nI p → a4 = nI n → y < S 0 1 → o < S 0 1 → x + n ≤ S 0 0 → p + n ≤ S 0 0 → RI (cf_fol (cf_smk (fun k => va_cpy (hi 89) (hi 89) (y * S 0 0 + x) (o * S 0 0 + p) n (o * S 0 0 + k))) (S 0 0) 0 0 + 10000) (rx_row hi 89 (va_cpy (hi 89) (hi 89) (y * S 0 0 + x) (o * S 0 0 + p) n)) hl v) : rx_CI L t 149 [.ref 1, .int a0, .int a1, .int a2, .int a3, .int a4] hi hl v RI := by
  have V := X.1.1
  have K1 := X.1.2.1
  have hw := V.1
  have hh := V.2.1
  have mi := X.1.2.2.2.2.2.2.1
  have e0 : hi 7 0 = nI (S 0 0) := K1.2.2.2.2.1
  have h0 : ((0 : Int32)).toInt = 0 := rfl
  have kg' := fun g => kg g
  unfold cf_cpz at kr
  refine w149_copy (c27 K1 ⟨fun g => c_retI (kr _ ?_), fun g => c27 K1 ⟨fun g2 => c_retI (kr _ ?_), fun g2 => ?_⟩⟩)
  · have := of_decide_eq_false (cf_B_eq g); rw [if_pos (by omega)]
  · have := of_decide_eq_false (cf_B_eq g2); rw [if_pos (by omega)]
  have hy := of_decide_eq_true (cf_B_ne g)
  have ho := of_decide_eq_true (cf_B_ne g2)
  rw [if_neg (by omega)] at kr
  have my := V.2.2.2.2.2.1 a0.toInt.toNat
  have mo := V.2.2.2.2.2.1 a2.toInt.toNat
  refine ⟨a0.toInt.toNat, (cf_x (x := a0) (by omega)).1, by omega, fun g3 => ⟨a2.toInt.toNat, (cf_x (x := a2) (by omega)).1, by omega, fun g4 => ?_, fun g4 => c_retI (kr _ ?_)⟩, fun g3 => c_retI (kr _ ?_)⟩
  all_goals rw [mi _ (by omega), show (0 : Int32) = nI 0 from rfl, nI_eq (by omega) (by omega)] at g3
  · rw [mi _ (by omega), show (0 : Int32) = nI 0 from rfl, nI_eq (by omega) (by omega)] at g4
    rw [if_neg (by omega)] at kr
    refine ⟨fun g5 => c_retI (kr _ ?_), fun g5 => ⟨fun g6 => c_retI (kr _ ?_), fun g6 => ?_⟩⟩
    · rw [cf_lt] at g5; rw [if_pos (by omega)]
    · rw [e0, cf_lt, nI_toInt (by omega)] at g6; rw [if_pos (by omega)]
    · rw [cf_lt] at g5
      rw [e0, cf_lt, nI_toInt (by omega)] at g6
      obtain ⟨e4, _⟩ := cf_x (x := a4) (by omega)
      have es : ((hi 7 0) - a4).toInt = S 0 0 - a4.toInt := by
        rw [e0, e4, cf_nsub (by omega), nI_toInt (by omega), nI_toInt (by omega)]; omega
      refine ⟨fun g7 => c_retI (kr _ ?_), fun g7 => ⟨fun g8 => c_retI (kr _ ?_), fun g8 => ⟨fun g9 => c_retI (kr _ ?_), fun g9 => ⟨fun g10 => ?_, fun g10 => c_retI (kr _ ?_)⟩⟩⟩⟩
      · rw [cf_lt] at g7; rw [if_pos (by omega)]
      · rw [cf_lt] at g8; rw [if_pos (by omega)]
      · rw [cf_lt, es] at g9; rw [if_pos (by omega)]
      · rw [cf_lt] at g7 g8; rw [cf_lt, es] at g9; rw [cf_le', es] at g10
        have gn : cf_cpz (S 0 0) (S 0 1) (S 2) a0 a1 a2 a3 a4 = none := by
          unfold cf_cpz
          rw [if_neg (by omega), if_neg (by omega), if_neg (by omega)]
        obtain ⟨y, x, o, p, n, ey, ex, eo, ep, en, q1, q2, q3, q4, _⟩ := cf_cpn gn
        have k2 := kg gn y x o p n ey ex eo ep en q1 q2 q3 q4
        subst ey ex eo ep en
        have bd : ∀ r z, r < S 0 1 → z + n ≤ S 0 0 → r * S 0 0 + z + n ≤ 64 := by
          intro r z hr hz
          have b1 : (r + 1) * S 0 0 ≤ 8 * 8 := Nat.mul_le_mul (by omega) (by omega)
          rw [Nat.succ_mul] at b1
          omega
        refine w150_bring ⟨y * S 0 0 + x, o * S 0 0 + p, n, ?_, ?_, rfl, bd y x q1 q3, bd o p q2 q4, fun _ i hi0 => B _ (by have := bd y x q1 q3; omega), c_retV ?_⟩
        · rw [e0, cf_nmul, nI_add]
        · rw [e0, cf_nmul, nI_add]
        · refine c151 (w := S 0 0) (h := S 0 1) (by omega) (by omega) q2 ?_ (c_retI k2)
          exact e0
      · rw [cf_le', es] at g10; rw [if_pos (by omega)]
  · rw [mi _ (by omega), show (0 : Int32) = nI 0 from rfl, nI_eq (by omega) (by omega)] at g4
    rw [if_pos (by omega)]
  · rw [if_pos (by omega)]
theorem c242 {hi0 : Nat → Nat → Int32} {S : cf_S} (V : cf_V S) (M : cf_M S hi0) {a0 a1 a2 a3 a4 : Int32} (kr : ∀ z, cf_cpz (S 0 0) (S 0 1) (S 2) a0 a1 a2 a3 a4 = some z → RI z hi0 hl v)
    (kg : cf_cpz (S 0 0) (S 0 1) (S 2) a0 a1 a2 a3 a4 = none → ∀ y x o p n, a0 = nI y → a1 = nI x → a2 = nI o → a3 = nI p → a4 = nI n → y < S 0 1 → o < S 0 1 → x + n ≤ S 0 0 → p + n ≤ S 0 0 → ∀ hi2, (∀ a b, ¬ a = 112 → ¬ a = 113 → hi2 a b = hi0 a b) → (∀ b, hi2 112 b = if 8 * o + p ≤ b ∧ b < 8 * o + p + n then hi0 112 (8 * y + x + (b - (8 * o + p))) else hi0 112 b) → RI (cf_fol (cf_smk (fun k => hi2 112 (8 * o + k))) (S 0 0) 0 10000) hi2 hl v) : rx_CI L t 242 [.ref 90, .int a0, .int a1, .int a2, .int a3, .int a4] hi0 hl v RI := by
  have hw := V.1
  have hh := V.2.1
  obtain ⟨⟨_, _, _, _, e0, e1, _⟩, _, _, _, mi, _, _⟩ := M
  have h0 : ((0 : Int32)).toInt = 0 := rfl
  have kg' := fun g => kg g
  unfold cf_cpz at kr
  have my := V.2.2.2.2.2.1 a0.toInt.toNat
  have mo := V.2.2.2.2.2.1 a2.toInt.toNat
  refine w242_copy_r ⟨fun g => c_retI (kr _ ?_), fun g => ⟨fun g2 => c_retI (kr _ ?_), fun g2 => ⟨fun g3 => c_retI (kr _ ?_), fun g3 => ⟨fun g4 => ?_, fun g4 => c_retI (kr _ ?_)⟩⟩⟩⟩
  · rw [cf_lt] at g; rw [if_pos (by omega)]
  · rw [e1, cf_le', nI_toInt (by omega)] at g2; rw [if_pos (by omega)]
  · rw [cf_lt] at g3; rw [if_pos (by omega)]
  · rw [cf_lt] at g g3; rw [e1, cf_le', nI_toInt (by omega)] at g2; rw [e1, cf_lt, nI_toInt (by omega)] at g4
    rw [if_neg (by omega)] at kr
    refine ⟨a0.toInt.toNat, (cf_x (x := a0) (by omega)).1, by omega, fun g5 => ⟨a2.toInt.toNat, (cf_x (x := a2) (by omega)).1, by omega, fun g6 => ?_, fun g6 => c_retI (kr _ ?_)⟩, fun g5 => c_retI (kr _ ?_)⟩
    all_goals rw [mi _ (by omega), show (0 : Int32) = nI 0 from rfl, nI_eq (by omega) (by omega)] at g5
    · rw [mi _ (by omega), show (0 : Int32) = nI 0 from rfl, nI_eq (by omega) (by omega)] at g6
      rw [if_neg (by omega)] at kr
      refine ⟨fun g7 => c_retI (kr _ ?_), fun g7 => ⟨fun g8 => c_retI (kr _ ?_), fun g8 => ⟨fun g9 => c_retI (kr _ ?_), fun g9 => ⟨fun g10 => c_retI (kr _ ?_), fun g10 => ?_⟩⟩⟩⟩
      · rw [cf_lt] at g7; rw [if_pos (by omega)]
      · rw [cf_lt] at g8; rw [if_pos (by omega)]
      · rw [cf_lt] at g9; rw [if_pos (by omega)]
      · rw [e0, cf_lt, nI_toInt (by omega)] at g10; rw [if_pos (by omega)]
      · rw [cf_lt] at g7 g8 g9
        rw [e0, cf_lt, nI_toInt (by omega)] at g10
        obtain ⟨e4, _⟩ := cf_x (x := a4) (by omega)
        have es : ((hi0 90 0) - a4).toInt = S 0 0 - a4.toInt := by
          rw [e0, e4, cf_nsub (by omega), nI_toInt (by omega), nI_toInt (by omega)]; omega
        refine ⟨fun g11 => c_retI (kr _ ?_), fun g11 => ⟨fun g12 => ?_, fun g12 => c_retI (kr _ ?_)⟩⟩
        · rw [cf_lt, es] at g11; rw [if_pos (by omega)]
        · rw [cf_lt, es] at g11; rw [cf_le', es] at g12
          have gn : cf_cpz (S 0 0) (S 0 1) (S 2) a0 a1 a2 a3 a4 = none := by
            unfold cf_cpz
            rw [if_neg (by omega), if_neg (by omega), if_neg (by omega)]
          obtain ⟨y, x, o, p, n, ey, ex, eo, ep, en, q1, q2, q3, q4, _⟩ := cf_cpn gn
          have k2 := kg gn y x o p n ey ex eo ep en q1 q2 q3 q4
          subst ey ex eo ep en
          -- the sum
          have l3 : ∀ hi : Nat → Nat → Int32, (∀ a b, ¬ a = 112 → ¬ a = 113 → hi a b = hi0 a b) → (∀ b, hi 112 b = if 8 * o + p ≤ b ∧ b < 8 * o + p + n then hi0 112 (8 * y + x + (b - (8 * o + p))) else hi0 112 b) → rx_aw 242 182 [.ref 90, .int (nI y), .int (nI x), .int (nI o), .int (nI p), .int (nI n), .int 10000, .int 0] [] (rx_hp L t hi hl v) (fun r h2 => ∃ z : Int32, r = some (.int z) ∧ rx_ok2 L t h2 (RI z)) := by
            intro hi F W
            refine cf_lpg (f := cf_smk (fun k => hi 112 (8 * o + k))) (P := fun _ _ => True) (N := S 0 0) (A := fun s i => [.ref 90, .int (nI y), .int (nI x), .int (nI o), .int (nI p), .int (nI n), .int s, .int (nI i)]) (a0 := 10000) trivial (fun _ _ _ _ => trivial) (fun i m hi0 _ q => ?_) (fun _ => ?_)
            · refine w242_copy_r_182 ⟨fun g => ?_, fun g => ⟨8 * o + i, ?_, by omega, ?_⟩⟩
              · rw [F _ _ (by omega) (by omega), e0, cf_nle (by omega) (by omega)] at g; omega
              · rw [show (8 : Int32) = nI 8 from rfl, cf_nmul, nI_add]
              · rw [show (1 : Int32) = nI 1 from rfl, nI_add]; exact q
            · refine w242_copy_r_182 ⟨fun g => c_retI (k2 hi F W), fun g => absurd ?_ g⟩
              rw [F _ _ (by omega) (by omega), e0, cf_nle (by omega) (by omega)]; omega
          -- n MARKS are brought
          have l2 : ∀ d i, i + d = n → ∀ hi : Nat → Nat → Int32, (∀ a b, ¬ a = 112 → ¬ a = 113 → hi a b = hi0 a b) → (∀ b, b < S 0 0 → hi 113 b = hi0 112 (8 * y + b)) → (∀ b, hi 112 b = if 8 * o + p ≤ b ∧ b < 8 * o + p + i then hi0 112 (8 * y + x + (b - (8 * o + p))) else hi0 112 b) → rx_aw 242 137 [.ref 90, .int (nI y), .int (nI x), .int (nI o), .int (nI p), .int (nI n), .int (nI i), rx_no] [] (rx_hp L t hi hl v) (fun r h2 => ∃ z : Int32, r = some (.int z) ∧ rx_ok2 L t h2 (RI z)) := by
            intro d
            induction d with
            | zero =>
              intro i hid hi F B W
              have : i = n := by omega
              subst this
              refine w242_copy_r_137 ⟨fun g => l3 hi F W, fun g => absurd ?_ g⟩
              rw [cf_nle (by omega) (by omega)]; omega
            | succ d ih =>
              intro i hid hi F B W
              refine w242_copy_r_137 ⟨fun g => ?_, fun g => ⟨x + i, nI_add x i, by omega, 8 * o + p + i, ?_, by omega, ?_⟩⟩
              · rw [cf_nle (by omega) (by omega)] at g; omega
              · rw [show (8 : Int32) = nI 8 from rfl, cf_nmul, nI_add, nI_add]
              · rw [show (1 : Int32) = nI 1 from rfl, nI_add]
                refine ih (i + 1) (by omega) _ (fun a b z1 z2 => ?_) (fun b hb => ?_) (fun b => ?_)
                · rw [cf_ru_ne (by omega)]; exact F a b z1 z2
                · rw [cf_ru_ne (by omega)]; exact B b hb
                · by_cases e : b = 8 * o + p + i
                  · subst e
                    rw [cf_ru_eq, B _ (by omega), if_pos (by omega)]
                    congr 1; omega
                  · rw [cf_ru_ne (by omega), W b]
                    by_cases z : 8 * o + p ≤ b ∧ b < 8 * o + p + i
                    · rw [if_pos z, if_pos (by omega)]
                    · rw [if_neg z, if_neg (by omega)]
          -- the row is kept
          have l1 : ∀ d i, i + d = S 0 0 → ∀ hi : Nat → Nat → Int32, (∀ a b, ¬ a = 113 → hi a b = hi0 a b) → (∀ b, b < i → hi 113 b = hi0 112 (8 * y + b)) → rx_aw 242 100 [.ref 90, .int (nI y), .int (nI x), .int (nI o), .int (nI p), .int (nI n), .int (nI i), rx_no] [] (rx_hp L t hi hl v) (fun r h2 => ∃ z : Int32, r = some (.int z) ∧ rx_ok2 L t h2 (RI z)) := by
            intro d
            induction d with
            | zero =>
              intro i hid hi F B
              refine w242_copy_r_100 ⟨fun g => l2 n 0 (by omega) hi (fun a b _ z => F a b z) (fun b hb => B b (by omega)) (fun b => ?_), fun g => absurd ?_ g⟩
              · rw [if_neg (by omega)]; exact F _ _ (by omega)
              · rw [F _ _ (by omega), e0, cf_nle (by omega) (by omega)]; omega
            | succ d ih =>
              intro i hid hi F B
              refine w242_copy_r_100 ⟨fun g => ?_, fun g => ⟨8 * y + i, ?_, by omega, i, rfl, by omega, ?_⟩⟩
              · rw [F _ _ (by omega), e0, cf_nle (by omega) (by omega)] at g; omega
              · rw [show (8 : Int32) = nI 8 from rfl, cf_nmul, nI_add]
              · rw [show (1 : Int32) = nI 1 from rfl, nI_add]
                refine ih (i + 1) (by omega) _ (fun a b z => ?_) (fun b hb => ?_)
                · rw [cf_ru_ne (by omega)]; exact F a b z
                · by_cases e : b = i
                  · subst e; rw [cf_ru_eq]; exact F _ _ (by omega)
                  · rw [cf_ru_ne (by omega)]; exact B b (by omega)
          exact l1 (S 0 0) 0 (by omega) hi0 (fun _ _ _ => rfl) (fun b hb => by omega)
        · rw [cf_le', es] at g12; rw [if_pos (by omega)]
    · rw [mi _ (by omega), show (0 : Int32) = nI 0 from rfl, nI_eq (by omega) (by omega)] at g6
      rw [if_pos (by omega)]
    · rw [if_pos (by omega)]
  · rw [e1, cf_lt, nI_toInt (by omega)] at g4; rw [if_pos (by omega)]
end RXE
theorem cf_pr_copy {L : Nat} {t : List (Nat × Nat)} (a0 a1 a2 a3 a4 : Int32) : cf_pr L t 149 242 [.int a0, .int a1, .int a2, .int a3, .int a4] := by
  intro S ls hi hl v R
  obtain ⟨I, A, Z, E⟩ := id R
  have V := I.1
  have M := Z.1.2.2.1
  obtain ⟨E1, E2, E3, E4, E5, E6⟩ := E
  have hw := V.1
  have hh := V.2.1
  have rr : ∀ g : Nat → Int32, ∀ a b, ¬ a = 89 → rx_row hi 89 g a b = hi a b := fun g a b q => by unfold rx_row; rw [if_neg q]
  have re : ∀ g : Nat → Int32, ∀ b, rx_row hi 89 g 89 b = g b := fun g b => by unfold rx_row; rw [if_pos rfl]
  refine c149 A.1 E4.2 (fun z q => c242 V M (fun z2 q2 => ⟨?_, S, ls, R⟩) (fun q2 => ?_)) (fun q y x o p n ey ex eo ep en hy ho hx hp => c242 V (cf_M_ext M (fun a b q1 q2 q3 => rr _ a b (by omega))) (fun z2 q2 => ?_) (fun _ y' x' o' p' n' ey' ex' eo' ep' en' _ _ _ _ hi3 F3 W3 => ?_))
  · rw [q] at q2; cases q2; rfl
  · rw [q] at q2; cases q2
  · rw [q] at q2; cases q2
  · rw [ey, nI_eq (by omega) (by omega)] at ey'
    rw [ex, nI_eq (by omega) (by omega)] at ex'
    rw [eo, nI_eq (by omega) (by omega)] at eo'
    rw [ep, nI_eq (by omega) (by omega)] at ep'
    rw [en, nI_eq (by omega) (by omega)] at en'
    subst ey' ex' eo' ep' en'
    have ro : S 2 o = 0 := by
      obtain ⟨y', x', o', p', n', _, _, eo', _, _, _, ho', _, _, h⟩ := cf_cpn q
      rw [eo, nI_eq (by omega) (by omega)] at eo'
      subst eo'; exact h
    -- both tables behind it
    have key : ∀ r k, r < S 0 1 → k < S 0 0 → hi3 112 (8 * r + k) = va_cpy (hi 89) (hi 89) (y * S 0 0 + x) (o * S 0 0 + p) n (r * S 0 0 + k) := by
      intro r k hr hk
      rw [W3]
      unfold va_cpy
      by_cases z : r = o ∧ p ≤ k ∧ k < p + n
      · obtain ⟨rfl, z1, z2⟩ := z
        rw [if_pos (by omega), if_pos (by omega), rr _ _ _ (by omega), show 8 * y + x + (8 * r + k - (8 * r + p)) = 8 * y + (x + (k - p)) by omega, (E4.1 y (x + (k - p)) hy (by omega)).1]
        congr 1; omega
      · have n2 : ¬ (o * S 0 0 + p ≤ r * S 0 0 + k ∧ r * S 0 0 + k < o * S 0 0 + p + n) := by
          intro w
          have w2 := (cf_rix (w := S 0 0) (r := r) (k := k) (o := o) (p := r * S 0 0 + k - o * S 0 0) hk (by omega)).mp (by omega)
          omega
        rw [if_neg n2, if_neg (by omega), rr _ _ _ (by omega)]
        exact (E4.1 r k hr hk).1
    have G : ∀ a b, ¬ a = 89 → ¬ a = 112 → ¬ a = 113 → hi3 a b = hi a b := fun a b q1 q2 q3 => (F3 a b q2 q3).trans (rr _ a b q1)
    have e89 : ∀ b, hi3 89 b = va_cpy (hi 89) (hi 89) (y * S 0 0 + x) (o * S 0 0 + p) n b := fun b => (F3 89 b (by omega) (by omega)).trans (re _ b)
    refine ⟨?_, cf_rel_E R (fun a b q => ?_) ⟨?_, ?_, ?_, ⟨fun r k hr hk => ?_, fun j hj => ?_⟩, ?_, E6⟩⟩
    · rw [← cf_smk_add 10000]
      refine cf_fol_eq _ _ _ (fun j s _ hj => ?_)
      unfold cf_smk
      exact congrArg (fun z => s + z) (key o j ho (by omega))
    · unfold cf_er at q; exact G a b (by omega) (by omega) (by omega)
    · rw [G _ _ (by omega) (by omega) (by omega), G _ _ (by omega) (by omega) (by omega)]; exact E1
    · refine cf_Et_ext E2 ?_ ?_ ?_ ?_ <;> (try intro b) <;> exact G _ _ (by omega) (by omega) (by omega)
    · refine cf_Eh_ext E3 ?_ ?_ ?_ ?_ <;> intro b <;> exact G _ _ (by omega) (by omega) (by omega)
    · rw [e89]
      refine ⟨key r k hr hk, fun q => ?_⟩
      have hne : ¬ r = o := fun e => by rw [e, ro] at q; cases q
      unfold va_cpy
      have n2 : ¬ (o * S 0 0 + p ≤ r * S 0 0 + k ∧ r * S 0 0 + k < o * S 0 0 + p + n) := by
        intro w
        have w2 := (cf_rix (w := S 0 0) (r := r) (k := k) (o := o) (p := r * S 0 0 + k - o * S 0 0) hk (by omega)).mp (by omega)
        omega
      rw [if_neg n2]; exact (E4.1 r k hr hk).2 q
    · rw [e89]
      unfold va_cpy
      by_cases z : o * S 0 0 + p ≤ j ∧ j < o * S 0 0 + p + n
      · rw [if_pos z]
        refine E4.2 _ ?_
        have b1 : (y + 1) * S 0 0 ≤ 8 * 8 := Nat.mul_le_mul (by omega) (by omega)
        rw [Nat.succ_mul] at b1
        omega
      · rw [if_neg z]; exact E4.2 j hj
    · refine cf_El_ext E5 ?_ ?_ ?_ ?_ ?_ (fun _ => rfl) <;> (try intro b) <;> exact G _ _ (by omega) (by omega) (by omega)
