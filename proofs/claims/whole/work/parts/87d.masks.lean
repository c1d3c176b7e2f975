/-! The Floor's constructor: its start, the sets of squares. -/
/-- the cells 0 to n, while they are made -/
def rx_tk (L n : Nat) : List (Nat × Nat) := (14, L) :: rx_s1.take n
def rx_r5 {α : Type} (f : Nat → Nat → α) (z : α) : Nat → Nat → α := rx_row (rx_row (rx_row (rx_row (rx_row f 8 (fun _ => z)) 9 (fun _ => z)) 10 (fun _ => z)) 11 (fun _ => z)) 12 (fun _ => z)
def rx_rF (r : Nat → Nat → Option Nat) : Nat → Nat → Option Nat := rx_u (rx_row (rx_u (rx_row (rx_u (rx_row (rx_u (rx_row (rx_u (rx_row r 8 (fun _ => none)) 7 5 (some 8)) 9 (fun _ => none)) 7 6 (some 9)) 10 (fun _ => none)) 7 7 (some 10)) 11 (fun _ => none)) 7 8 (some 11)) 12 (fun _ => none)) 7 9 (some 12)
theorem rx_hr7_F (r : Nat → Nat → Option Nat) : rx_hr7 (rx_rF r) = rx_rF r := by
  funext i k
  by_cases h7 : i = 7
  · subst h7
    by_cases hk : k < 10
    · have : k = 0 ∨ k = 1 ∨ k = 2 ∨ k = 3 ∨ k = 4 ∨ k = 5 ∨ k = 6 ∨ k = 7 ∨ k = 8 ∨ k = 9 := by omega
      rcases this with rfl | rfl | rfl | rfl | rfl | rfl | rfl | rfl | rfl | rfl <;> rfl
    · obtain ⟨c, rfl⟩ : ∃ c, k = c + 10 := ⟨k - 10, by omega⟩
      rfl
  · unfold rx_hr7
    split
    · rename_i q hq
      split at hq
      · exact absurd rfl h7
      · cases hq
    · rfl
section RXC
variable {L : Nat} {hi : Nat → Nat → Int32} {hl : Nat → Nat → Int64} {r : Nat → Nat → Option Nat} {Q : Option Value → rx_H → Prop}
set_option maxRecDepth 100000 in
theorem w6a {x y : Int32} (k : rx_aw 6 73 [.ref 7, .int x, .int y, .long 0, rx_no, .long 0, rx_no, .long 0, rx_no, .int 0] [] (rx_hF L (rx_u (rx_u (rx_r5 hi 0) 7 0 x) 7 1 y) (rx_u (rx_r5 hl 0) 7 10 0) (rx_rF r)) Q) : rx_me 6 [.ref 7, .int x, .int y] (rx_tk L 7, hi, hl, r) Q := by
  show rx_aw 6 0 [.ref 7, .int x, .int y, rx_no, rx_no, rx_no, rx_no, rx_no, rx_no, rx_no] [] (rx_tk L 7, hi, hl, r) Q
  refine rx_aw_s 2 (pc := 0) rfl ?_
  refine rx_aw_s 4 (pc := 4) rfl ?_
  show rx_aw 6 12 [.ref 7, .int x, .int y, rx_no, rx_no, rx_no, rx_no, rx_no, rx_no, rx_no] [] (rx_tk L 8, rx_row hi 8 (fun _ => 0), rx_row hl 8 (fun _ => 0), rx_u (rx_row r 8 (fun _ => none)) 7 5 (some 8)) Q
  refine rx_aw_s 4 (pc := 12) rfl ?_
  show rx_aw 6 20 [.ref 7, .int x, .int y, rx_no, rx_no, rx_no, rx_no, rx_no, rx_no, rx_no] [] (rx_tk L 9, rx_row (rx_row hi 8 (fun _ => 0)) 9 (fun _ => 0), rx_row (rx_row hl 8 (fun _ => 0)) 9 (fun _ => 0), rx_u (rx_row (rx_u (rx_row r 8 (fun _ => none)) 7 5 (some 8)) 9 (fun _ => none)) 7 6 (some 9)) Q
  refine rx_aw_s 4 (pc := 20) rfl ?_
  show rx_aw 6 29 [.ref 7, .int x, .int y, rx_no, rx_no, rx_no, rx_no, rx_no, rx_no, rx_no] [] (rx_tk L 10, rx_row (rx_row (rx_row hi 8 (fun _ => 0)) 9 (fun _ => 0)) 10 (fun _ => 0), rx_row (rx_row (rx_row hl 8 (fun _ => 0)) 9 (fun _ => 0)) 10 (fun _ => 0), rx_u (rx_row (rx_u (rx_row (rx_u (rx_row r 8 (fun _ => none)) 7 5 (some 8)) 9 (fun _ => none)) 7 6 (some 9)) 10 (fun _ => none)) 7 7 (some 10)) Q
  refine rx_aw_s 4 (pc := 29) rfl ?_
  show rx_aw 6 38 [.ref 7, .int x, .int y, rx_no, rx_no, rx_no, rx_no, rx_no, rx_no, rx_no] [] (rx_tk L 11, rx_row (rx_row (rx_row (rx_row hi 8 (fun _ => 0)) 9 (fun _ => 0)) 10 (fun _ => 0)) 11 (fun _ => 0), rx_row (rx_row (rx_row (rx_row hl 8 (fun _ => 0)) 9 (fun _ => 0)) 10 (fun _ => 0)) 11 (fun _ => 0), rx_u (rx_row (rx_u (rx_row (rx_u (rx_row (rx_u (rx_row r 8 (fun _ => none)) 7 5 (some 8)) 9 (fun _ => none)) 7 6 (some 9)) 10 (fun _ => none)) 7 7 (some 10)) 11 (fun _ => none)) 7 8 (some 11)) Q
  refine rx_aw_s 4 (pc := 38) rfl ?_
  show rx_aw 6 47 [.ref 7, .int x, .int y, rx_no, rx_no, rx_no, rx_no, rx_no, rx_no, rx_no] [] (rx_tk L 12, rx_r5 hi 0, rx_r5 hl 0, rx_rF r) Q
  refine rx_aw_s 9 (pc := 47) rfl ?_
  show rx_aw 6 62 [.ref 7, .int x, .int y, rx_no, rx_no, rx_no, rx_no, rx_no, rx_no, rx_no] [] (rx_tk L 12, rx_u (rx_u (rx_r5 hi 0) 7 0 x) 7 1 y, rx_u (rx_r5 hl 0) 7 10 0, rx_rF r) Q
  refine rx_aw_s 8 (pc := 62) rfl ?_
  show rx_aw 6 73 [.ref 7, .int x, .int y, .long 0, rx_no, .long 0, rx_no, .long 0, rx_no, .int 0] [] (rx_tk L 12, rx_u (rx_u (rx_r5 hi 0) 7 0 x) 7 1 y, rx_u (rx_r5 hl 0) 7 10 0, rx_rF r) Q
  have e : rx_hF L (rx_u (rx_u (rx_r5 hi 0) 7 0 x) 7 1 y) (rx_u (rx_r5 hl 0) 7 10 0) (rx_rF r) = (rx_tk L 12, rx_u (rx_u (rx_r5 hi 0) 7 0 x) 7 1 y, rx_u (rx_r5 hl 0) 7 10 0, rx_rF r) := by
    unfold rx_hF
    rw [rx_hr7_F]
    rfl
  rw [e] at k
  exact k
end RXC
/-- the first, the last squares of y rows, and all of them, as the constructor finds them -/
def cf_mf (w : Nat) : Nat → Int64
  | 0 => 0
  | y + 1 => cf_mf w y ||| (1 : Int64) <<< ((nI y * nI w).toInt64 &&& 63)
def cf_ml (w : Nat) : Nat → Int64
  | 0 => 0
  | y + 1 => cf_ml w y ||| (1 : Int64) <<< ((nI y * nI w + nI w - 1).toInt64 &&& 63)
def cf_me (w : Nat) : Nat → Int64
  | 0 => 0
  | y + 1 => cf_me w y ||| ((1 : Int64) <<< ((nI w).toInt64 &&& 63) - 1) <<< ((nI y * nI w).toInt64 &&& 63)
set_option maxRecDepth 100000 in
theorem w6b {w h : Nat} (hw : w ≤ 8) (hh : h ≤ 8) {H : rx_H} {Q : Option Value → rx_H → Prop} (k : rx_aw 6 124 [.ref 7, .int (nI w), .int (nI h), .long (cf_mf w h), rx_no, .long (cf_ml w h), rx_no, .long (cf_me w h), rx_no, .int (nI h)] [] H Q) : rx_aw 6 73 [.ref 7, .int (nI w), .int (nI h), .long 0, rx_no, .long 0, rx_no, .long 0, rx_no, .int 0] [] H Q := by
  have ex : rx_aw 6 73 [.ref 7, .int (nI w), .int (nI h), .long (cf_mf w h), rx_no, .long (cf_ml w h), rx_no, .long (cf_me w h), rx_no, .int (nI h)] [] H Q := by
    refine rx_aw_s 3 (pc := 73) rfl ?_
    refine rx_w_if (c := nI h ≤ nI h) ⟨fun c => k, fun c => absurd ?_ c⟩
    rw [cf_nle (by omega) (by omega)]; exact Nat.le_refl h
  have st : ∀ y, y < h → rx_aw 6 73 [.ref 7, .int (nI w), .int (nI h), .long (cf_mf w (y + 1)), rx_no, .long (cf_ml w (y + 1)), rx_no, .long (cf_me w (y + 1)), rx_no, .int (nI (y + 1))] [] H Q → rx_aw 6 73 [.ref 7, .int (nI w), .int (nI h), .long (cf_mf w y), rx_no, .long (cf_ml w y), rx_no, .long (cf_me w y), rx_no, .int (nI y)] [] H Q := by
    intro y hy kk
    refine rx_aw_s 3 (pc := 73) rfl ?_
    refine rx_w_if (c := nI h ≤ nI y) ⟨fun c => ?_, fun c => ?_⟩
    · rw [cf_nle (by omega) (by omega)] at c; omega
    · show rx_aw 6 79 [.ref 7, .int (nI w), .int (nI h), .long (cf_mf w y), rx_no, .long (cf_ml w y), rx_no, .long (cf_me w y), rx_no, .int (nI y)] [] H Q
      refine rx_aw_s 8 (pc := 79) rfl ?_
      show rx_aw 6 88 [.ref 7, .int (nI w), .int (nI h), .long (cf_mf w (y + 1)), rx_no, .long (cf_ml w y), rx_no, .long (cf_me w y), rx_no, .int (nI y)] [] H Q
      refine rx_aw_s 12 (pc := 88) rfl ?_
      show rx_aw 6 103 [.ref 7, .int (nI w), .int (nI h), .long (cf_mf w (y + 1)), rx_no, .long (cf_ml w (y + 1)), rx_no, .long (cf_me w y), rx_no, .int (nI y)] [] H Q
      refine rx_aw_s 12 (pc := 103) rfl ?_
      show rx_aw 6 118 [.ref 7, .int (nI w), .int (nI h), .long (cf_mf w (y + 1)), rx_no, .long (cf_ml w (y + 1)), rx_no, .long (cf_me w (y + 1)), rx_no, .int (nI y)] [] H Q
      refine rx_aw_s 2 (pc := 118) rfl ?_
      show rx_aw 6 73 [.ref 7, .int (nI w), .int (nI h), .long (cf_mf w (y + 1)), rx_no, .long (cf_ml w (y + 1)), rx_no, .long (cf_me w (y + 1)), rx_no, .int (nI y + 1)] [] H Q
      rw [show nI y + 1 = nI (y + 1) from nI_add y 1]
      exact kk
  exact rx_aw_loop (m := 6) (pc := 73) (Q := Q) h (fun y => ([.ref 7, .int (nI w), .int (nI h), .long (cf_mf w y), rx_no, .long (cf_ml w y), rx_no, .long (cf_me w y), rx_no, .int (nI y)], H)) (fun y hy kk => st y hy kk) ex
/-- what these sets hold -/
theorem cf_mf_has {w : Nat} (hw : w ≤ 8) (q : Nat) : ∀ h, h ≤ 8 → cf_has (cf_mf w h) q = cf_any (fun y => decide (y * w = q)) h
  | 0, _ => cf_h0 q
  | h + 1, hh => by
    have hb : h * w < 64 := by
      have : h * w ≤ 7 * 8 := Nat.mul_le_mul (by omega) hw
      omega
    rw [cf_mf, cf_hor, cf_mf_has hw q h (by omega), cf_nmul, cf_one _ hb, cf_hbt, decide_eq_true hb, Bool.true_and, cf_any]
theorem cf_ml_has {w : Nat} (h1 : 1 ≤ w) (hw : w ≤ 8) (q : Nat) : ∀ h, h ≤ 8 → cf_has (cf_ml w h) q = cf_any (fun y => decide (y * w + w - 1 = q)) h
  | 0, _ => cf_h0 q
  | h + 1, hh => by
    have hb : h * w + w - 1 < 64 := by
      have : h * w ≤ 7 * 8 := Nat.mul_le_mul (by omega) hw
      omega
    rw [cf_ml, cf_hor, cf_ml_has h1 hw q h (by omega), cf_nmul, nI_add, show (1 : Int32) = nI 1 from rfl, cf_nsub (by omega), cf_one _ hb, cf_hbt, decide_eq_true hb, Bool.true_and, cf_any]
theorem cf_lowm {w : Nat} (hw : w ≤ 8) {q : Nat} : cf_has ((1 : Int64) <<< ((nI w).toInt64 &&& 63) - 1) q = decide (q < w) := by
  by_cases hq : q < 64
  · have : ∀ w : Fin 9, ∀ q : Fin 64, cf_has ((1 : Int64) <<< ((nI w.val).toInt64 &&& 63) - 1) q.val = decide (q.val < w.val) := by decide +kernel
    exact this ⟨w, by omega⟩ ⟨q, hq⟩
  · rw [cf_hbig (by omega), decide_eq_false (by omega)]
theorem cf_me_has {w : Nat} (hw : w ≤ 8) {q : Nat} (hq : q < 64) : ∀ h, h ≤ 8 → cf_has (cf_me w h) q = cf_any (fun y => decide (y * w ≤ q) && decide (q - y * w < w)) h
  | 0, _ => cf_h0 q
  | h + 1, hh => by
    have hb : h * w < 64 := by
      have : h * w ≤ 7 * 8 := Nat.mul_le_mul (by omega) hw
      omega
    rw [cf_me, cf_hor, cf_me_has hw hq h (by omega), cf_nmul, cf_shl _ _ hb, decide_eq_true hq, Bool.true_and, cf_lowm hw, cf_any]
theorem cf_any3 {w h q : Nat} (h1 : 2 ≤ w) (hw : w ≤ 8) : (cf_any (fun y => decide (y * w = q)) h = (decide (q < w * h) && decide (q % w = 0))) ∧ (cf_any (fun y => decide (y * w + w - 1 = q)) h = (decide (q < w * h) && decide (q % w + 1 = w))) ∧ (cf_any (fun y => decide (y * w ≤ q) && decide (q - y * w < w)) h = decide (q < w * h)) := by
  refine ⟨?_, ?_, ?_⟩ <;> apply Bool.eq_iff_iff.mpr <;> simp only [cf_any_iff, Bool.and_eq_true, decide_eq_true_iff]
  · constructor
    · rintro ⟨y, hy, e⟩
      rcases cf_w7 h1 hw with rfl | rfl | rfl | rfl | rfl | rfl | rfl <;> omega
    · rintro ⟨a, b⟩
      refine ⟨q / w, ?_, ?_⟩ <;> rcases cf_w7 h1 hw with rfl | rfl | rfl | rfl | rfl | rfl | rfl <;> omega
  · constructor
    · rintro ⟨y, hy, e⟩
      rcases cf_w7 h1 hw with rfl | rfl | rfl | rfl | rfl | rfl | rfl <;> omega
    · rintro ⟨a, b⟩
      refine ⟨q / w, ?_, ?_⟩ <;> rcases cf_w7 h1 hw with rfl | rfl | rfl | rfl | rfl | rfl | rfl <;> omega
  · constructor
    · rintro ⟨y, hy, e1, e2⟩
      rcases cf_w7 h1 hw with rfl | rfl | rfl | rfl | rfl | rfl | rfl <;> omega
    · intro a
      refine ⟨q / w, ?_, ?_, ?_⟩ <;> rcases cf_w7 h1 hw with rfl | rfl | rfl | rfl | rfl | rfl | rfl <;> omega
theorem cf_K3_new {w h : Nat} (h1 : 2 ≤ w) (hw : w ≤ 8) (hh : h ≤ 8) {hl : Nat → Nat → Int64} (e2 : hl 7 2 = cf_me w h) (e3 : hl 7 3 = cf_me w h &&& (cf_mf w h ^^^ -1)) (e4 : hl 7 4 = cf_me w h &&& (cf_ml w h ^^^ -1)) : cf_K3 w h hl := by
  intro q hq
  obtain ⟨a1, a2, a3⟩ := cf_any3 (h := h) (q := q) h1 hw
  rw [e2, e3, e4, cf_hand, cf_hand, cf_hnot, cf_hnot, cf_mf_has hw q h hh, cf_ml_has (by omega) hw q h hh, cf_me_has hw hq h hh, a1, a2, a3, decide_eq_true hq]
  refine ⟨rfl, ?_, ?_⟩
  · by_cases b1 : q < w * h <;> by_cases b2 : q % w = 0 <;> simp [b1, b2]
  · by_cases b1 : q < w * h <;> by_cases b2 : q % w + 1 = w <;> simp [b1, b2]
