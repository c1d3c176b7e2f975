/-! The law's start: the class and the reference are made. -/
def rx_clm (x : Int32) : Int32 := if x < 2 then 2 else if 8 < x then 8 else x
theorem rx_clamp (x : Int32) : ∃ w, 2 ≤ w ∧ w ≤ 8 ∧ rx_clm x = nI w ∧ (if (if (2 : Int32) < x then x else (2 : Int32)) < (8 : Int32) then (if (2 : Int32) < x then x else (2 : Int32)) else (8 : Int32)) = nI w := by
  have e2 : (2 : Int32).toInt = 2 := by decide
  have e8 : (8 : Int32).toInt = 8 := by decide
  unfold rx_clm
  by_cases h1 : x < 2
  · refine ⟨2, by omega, by omega, ?_, ?_⟩
    · rw [if_pos h1]; rfl
    · have h2 : ¬ (2 : Int32) < x := by rw [cf_lt] at h1 ⊢; omega
      rw [if_neg h2, if_pos (by decide)]; rfl
  · by_cases h2 : 8 < x
    · refine ⟨8, by omega, by omega, ?_, ?_⟩
      · rw [if_neg h1, if_pos h2]; rfl
      · have h3 : (2 : Int32) < x := by rw [cf_lt] at h2 ⊢; omega
        have h4 : ¬ x < 8 := by rw [cf_lt] at h2 ⊢; omega
        rw [if_pos h3, if_neg h4]; rfl
    · rw [cf_lt] at h1 h2
      obtain ⟨ex, _⟩ := cf_x (x := x) (by omega)
      refine ⟨x.toInt.toNat, by omega, by omega, ?_, ?_⟩
      · rw [if_neg (by rw [cf_lt]; exact h1), if_neg (by rw [cf_lt]; exact h2)]; exact ex
      · by_cases h3 : (2 : Int32) < x
        · rw [if_pos h3]
          by_cases h4 : x < 8
          · rw [if_pos h4]; exact ex
          · rw [if_neg h4]
            rw [cf_lt] at h4
            have : x.toInt.toNat = 8 := by omega
            rw [this]; rfl
        · rw [if_neg h3, if_pos (by decide)]
          rw [cf_lt] at h3
          have : x.toInt.toNat = 2 := by omega
          rw [this]; rfl
section RXC
variable {L : Nat} {hi : Nat → Nat → Int32} {hl : Nat → Nat → Int64} {r : Nat → Nat → Option Nat} {Q : Option Value → rx_H → Prop}
set_option maxRecDepth 100000 in
theorem w159b {x y : Int32} (k : rx_aw 159 393 [.ref 90, .int x, .int y] [] (rx_tk L 133, rx_u hi 90 0 (rx_clm x), hl, r) Q) : rx_aw 159 368 [.ref 90, .int x, .int y] [] (rx_tk L 133, hi, hl, r) Q := by
  have b1 : ∀ {z : Int32}, ¬ (2 : Int32) ≤ z ↔ z < 2 := fun {z} => by rw [cf_lt, cf_le']; omega
  have b2 : ∀ {z : Int32}, ¬ z ≤ (8 : Int32) ↔ 8 < z := fun {z} => by rw [cf_lt, cf_le']; omega
  refine rx_aw_s 4 (pc := 368) rfl ?_
  refine rx_w_if (c := (2 : Int32) ≤ x) ⟨fun c1 => ?_, fun c1 => ?_⟩
  · show rx_aw 159 378 [.ref 90, .int x, .int y] [.ref 90] (rx_tk L 133, hi, hl, r) Q
    refine rx_aw_s 3 (pc := 378) rfl ?_
    refine rx_w_if (c := x ≤ (8 : Int32)) ⟨fun c2 => ?_, fun c2 => ?_⟩
    · show rx_aw 159 389 [.ref 90, .int x, .int y] [.ref 90] (rx_tk L 133, hi, hl, r) Q
      have e : rx_clm x = x := by
        unfold rx_clm
        rw [if_neg (fun q => absurd c1 (b1.mpr q)), if_neg (fun q => absurd c2 (b2.mpr q))]
      rw [e] at k
      refine rx_aw_s 2 (pc := 389) rfl ?_
      exact k
    · show rx_aw 159 384 [.ref 90, .int x, .int y] [.ref 90] (rx_tk L 133, hi, hl, r) Q
      have e : rx_clm x = 8 := by
        unfold rx_clm
        rw [if_neg (fun q => absurd c1 (b1.mpr q)), if_pos (b2.mp c2)]
      rw [e] at k
      refine rx_aw_s 3 (pc := 384) rfl ?_
      exact k
  · show rx_aw 159 374 [.ref 90, .int x, .int y] [.ref 90] (rx_tk L 133, hi, hl, r) Q
    have e : rx_clm x = 2 := by
      unfold rx_clm
      rw [if_pos (b1.mp c1)]
    rw [e] at k
    refine rx_aw_s 3 (pc := 374) rfl ?_
    exact k
set_option maxRecDepth 100000 in
theorem w159c {x y : Int32} (k : rx_aw 159 418 [.ref 90, .int x, .int y] [] (rx_tk L 133, rx_u hi 90 1 (rx_clm y), hl, r) Q) : rx_aw 159 393 [.ref 90, .int x, .int y] [] (rx_tk L 133, hi, hl, r) Q := by
  have b1 : ∀ {z : Int32}, ¬ (2 : Int32) ≤ z ↔ z < 2 := fun {z} => by rw [cf_lt, cf_le']; omega
  have b2 : ∀ {z : Int32}, ¬ z ≤ (8 : Int32) ↔ 8 < z := fun {z} => by rw [cf_lt, cf_le']; omega
  refine rx_aw_s 4 (pc := 393) rfl ?_
  refine rx_w_if (c := (2 : Int32) ≤ y) ⟨fun c1 => ?_, fun c1 => ?_⟩
  · show rx_aw 159 403 [.ref 90, .int x, .int y] [.ref 90] (rx_tk L 133, hi, hl, r) Q
    refine rx_aw_s 3 (pc := 403) rfl ?_
    refine rx_w_if (c := y ≤ (8 : Int32)) ⟨fun c2 => ?_, fun c2 => ?_⟩
    · show rx_aw 159 414 [.ref 90, .int x, .int y] [.ref 90] (rx_tk L 133, hi, hl, r) Q
      have e : rx_clm y = y := by
        unfold rx_clm
        rw [if_neg (fun q => absurd c1 (b1.mpr q)), if_neg (fun q => absurd c2 (b2.mpr q))]
      rw [e] at k
      refine rx_aw_s 2 (pc := 414) rfl ?_
      exact k
    · show rx_aw 159 409 [.ref 90, .int x, .int y] [.ref 90] (rx_tk L 133, hi, hl, r) Q
      have e : rx_clm y = 8 := by
        unfold rx_clm
        rw [if_neg (fun q => absurd c1 (b1.mpr q)), if_pos (b2.mp c2)]
      rw [e] at k
      refine rx_aw_s 3 (pc := 409) rfl ?_
      exact k
  · show rx_aw 159 399 [.ref 90, .int x, .int y] [.ref 90] (rx_tk L 133, hi, hl, r) Q
    have e : rx_clm y = 2 := by
      unfold rx_clm
      rw [if_pos (b1.mp c1)]
    rw [e] at k
    refine rx_aw_s 3 (pc := 399) rfl ?_
    exact k
/-- the ints behind the reference's constructor -/
def k159I (hi : Nat → Nat → Int32) (x y : Int32) : Nat → Nat → Int32 := rx_u (rx_u (rx_u (k159i43 hi) 90 0 (rx_clm x)) 90 1 (rx_clm y)) 90 2 (rx_clm x * rx_clm y)
set_option maxRecDepth 100000 in
theorem w159k {x y : Int32} (k : Q none (rx_tk L 133, k159I hi x y, k159l43 hl, k159r43 r)) : rx_me 159 [.ref 90, .int x, .int y] (rx_tk L 90, hi, hl, r) Q := by
  refine w159a (w159b (w159c ?_))
  refine rx_aw_s 7 (pc := 418) rfl ?_
  show rx_aw 159 431 [.ref 90, .int x, .int y] [] (rx_tk L 133, k159I hi x y, k159l43 hl, k159r43 r) Q
  exact rx_aw_ret (pc := 431) rfl k
set_option maxRecDepth 100000 in
theorem c158 {n j : Nat} (hL : L ≤ 3074) (hj : j < 2) (k : Q (some (.int (if j < L then hi 0 j else 0))) (rx_tk L n, hi, hl, r)) : rx_me 158 [.ref 0, .int (nI j)] (rx_tk L n, hi, hl, r) Q := by
  show rx_aw 158 0 [.ref 0, .int (nI j)] [] (rx_tk L n, hi, hl, r) Q
  refine rx_aw_s 3 (pc := 0) rfl ?_
  show rx_aw 158 3 [.ref 0, .int (nI j)] [.int (nI L), .int (nI j)] (rx_tk L n, hi, hl, r) Q
  refine rx_aw_s 1 (pc := 3) rfl ?_
  refine rx_w_if (c := nI L ≤ nI j) ⟨fun c => ?_, fun c => ?_⟩
  · rw [cf_nle (by omega) (by omega)] at c
    rw [if_neg (by omega)] at k
    show rx_aw 158 12 [.ref 0, .int (nI j)] [] (rx_tk L n, hi, hl, r) Q
    refine rx_aw_s 1 (pc := 12) rfl ?_
    exact rx_aw_ret (pc := 13) rfl k
  · rw [cf_nle (by omega) (by omega)] at c
    rw [if_pos (by omega)] at k
    show rx_aw 158 6 [.ref 0, .int (nI j)] [] (rx_tk L n, hi, hl, r) Q
    refine rx_aw_s 2 (pc := 6) rfl ?_
    show rx_aw 158 8 [.ref 0, .int (nI j)] [.int (nI j), .ref 0] (rx_tk L n, hi, hl, r) Q
    refine rx_aw_iald (pc := 8) (n := L) j rfl rfl rfl rfl (by omega) (by omega) ?_
    show rx_aw 158 9 [.ref 0, .int (nI j)] [.int (hi 0 j)] (rx_tk L n, hi, hl, r) Q
    refine rx_aw_s 1 (pc := 9) rfl ?_
    exact rx_aw_ret (pc := 13) rfl k
/-- the first two ints of the script -/
def lw_arg (L j : Nat) (hi : Nat → Nat → Int32) : Int32 := if j < L then hi 0 j else 0
set_option maxRecDepth 100000 in
theorem lw_a (hL : L ≤ 3074) (k : rx_me 1 [.ref 1, .int (lw_arg L 0 hi), .int (lw_arg L 1 hi)] (rx_tk L 1, rx_row hi 1 (fun _ => 0), rx_row hl 1 (fun _ => 0), rx_row r 1 (fun _ => none)) (fun r2 h2 => rx_aw 0 17 [.ref 0, rx_no, rx_no, rx_no] (r2.toList ++ [.ref 1]) h2 Q)) : rx_aw 0 0 [.ref 0, rx_no, rx_no, rx_no] [] (rx_tk L 0, hi, hl, r) Q := by
  refine rx_aw_s 4 (pc := 0) rfl ?_
  show rx_aw 0 6 [.ref 0, rx_no, rx_no, rx_no] [.int (nI 0), .ref 0, .ref 1, .ref 1] (rx_tk L 1, rx_row hi 1 (fun _ => 0), rx_row hl 1 (fun _ => 0), rx_row r 1 (fun _ => none)) Q
  refine rx_aw_call (j := 158) (pc := 6) rfl rfl rfl rfl rfl (c158 hL (by omega) ?_)
  show rx_aw 0 9 [.ref 0, rx_no, rx_no, rx_no] [.int (lw_arg L 0 hi), .ref 1, .ref 1] (rx_tk L 1, rx_row hi 1 (fun _ => 0), rx_row hl 1 (fun _ => 0), rx_row r 1 (fun _ => none)) Q
  refine rx_aw_s 2 (pc := 9) rfl ?_
  show rx_aw 0 11 [.ref 0, rx_no, rx_no, rx_no] [.int (nI 1), .ref 0, .int (lw_arg L 0 hi), .ref 1, .ref 1] (rx_tk L 1, rx_row hi 1 (fun _ => 0), rx_row hl 1 (fun _ => 0), rx_row r 1 (fun _ => none)) Q
  refine rx_aw_call (j := 158) (pc := 11) rfl rfl rfl rfl rfl (c158 hL (by omega) ?_)
  show rx_aw 0 14 [.ref 0, rx_no, rx_no, rx_no] [.int (lw_arg L 1 hi), .int (lw_arg L 0 hi), .ref 1, .ref 1] (rx_tk L 1, rx_row hi 1 (fun _ => 0), rx_row hl 1 (fun _ => 0), rx_row r 1 (fun _ => none)) Q
  exact rx_aw_call (j := 1) (pc := 14) rfl rfl rfl rfl rfl k
set_option maxRecDepth 100000 in
theorem lw_b (hL : L ≤ 3074) (k : rx_aw 0 38 [.ref 0, .ref 1, .ref 90, .int (nI 2)] [] (rx_tk L 133, k159I (rx_row hi 90 (fun _ => 0)) (lw_arg L 0 hi) (lw_arg L 1 hi), k159l43 (rx_row hl 90 (fun _ => 0)), k159r43 (rx_row r 90 (fun _ => none))) Q) : rx_aw 0 17 [.ref 0, rx_no, rx_no, rx_no] [.ref 1] (rx_tk L 89, hi, hl, r) Q := by
  refine rx_aw_s 5 (pc := 17) rfl ?_
  show rx_aw 0 24 [.ref 0, .ref 1, rx_no, rx_no] [.int (nI 0), .ref 0, .ref 90, .ref 90] (rx_tk L 90, rx_row hi 90 (fun _ => 0), rx_row hl 90 (fun _ => 0), rx_row r 90 (fun _ => none)) Q
  refine rx_aw_call (j := 158) (pc := 24) rfl rfl rfl rfl rfl (c158 hL (by omega) ?_)
  show rx_aw 0 27 [.ref 0, .ref 1, rx_no, rx_no] [.int (lw_arg L 0 hi), .ref 90, .ref 90] (rx_tk L 90, rx_row hi 90 (fun _ => 0), rx_row hl 90 (fun _ => 0), rx_row r 90 (fun _ => none)) Q
  refine rx_aw_s 2 (pc := 27) rfl ?_
  show rx_aw 0 29 [.ref 0, .ref 1, rx_no, rx_no] [.int (nI 1), .ref 0, .int (lw_arg L 0 hi), .ref 90, .ref 90] (rx_tk L 90, rx_row hi 90 (fun _ => 0), rx_row hl 90 (fun _ => 0), rx_row r 90 (fun _ => none)) Q
  refine rx_aw_call (j := 158) (pc := 29) rfl rfl rfl rfl rfl (c158 hL (by omega) ?_)
  show rx_aw 0 32 [.ref 0, .ref 1, rx_no, rx_no] [.int (lw_arg L 1 hi), .int (lw_arg L 0 hi), .ref 90, .ref 90] (rx_tk L 90, rx_row hi 90 (fun _ => 0), rx_row hl 90 (fun _ => 0), rx_row r 90 (fun _ => none)) Q
  refine rx_aw_call (j := 159) (pc := 32) rfl rfl rfl rfl rfl (w159k ?_)
  show rx_aw 0 35 [.ref 0, .ref 1, rx_no, rx_no] [.ref 90] (rx_tk L 133, k159I (rx_row hi 90 (fun _ => 0)) (lw_arg L 0 hi) (lw_arg L 1 hi), k159l43 (rx_row hl 90 (fun _ => 0)), k159r43 (rx_row r 90 (fun _ => none))) Q
  refine rx_aw_s 3 (pc := 35) rfl ?_
  exact k
set_option maxRecDepth 100000 in
/-- all of it, in one -/
theorem lw_c (hL : L ≤ 3074) (k : ∀ (w h : Nat) (hi2 : Nat → Nat → Int32) (hl2 : Nat → Nat → Int64), rx_clm (lw_arg L 0 hi) = nI w → rx_clm (lw_arg L 1 hi) = nI h → cf_FL w h (k1ai8 (rx_row hi 1 (fun _ => 0))) hi2 hl2 →
      rx_aw 0 38 [.ref 0, .ref 1, .ref 90, .int (nI 2)] [] (rx_tk L 133, k159I (rx_row (k1bi12 hi2) 90 (fun _ => 0)) (lw_arg L 0 hi) (lw_arg L 1 hi), k159l43 (rx_row (k1bl12 hl2) 90 (fun _ => 0)), k159r43 (rx_row (k1br13 (rx_rF (k1ar8 (rx_row r 1 (fun _ => none))))) 90 (fun _ => none))) Q) : rx_aw 0 0 [.ref 0, rx_no, rx_no, rx_no] [] (rx_tk L 0, hi, hl, r) Q := by
  obtain ⟨w, w2, w8, ew, ew2⟩ := rx_clamp (lw_arg L 0 hi)
  obtain ⟨h, h2, h8, eh, eh2⟩ := rx_clamp (lw_arg L 1 hi)
  refine lw_a hL (w1a ?_)
  rw [ew2, eh2]
  refine c6 ⟨w2, w8⟩ ⟨h2, h8⟩ (fun hi2 hl2 F => ?_)
  show rx_aw 1 64 [.ref 1, .int (lw_arg L 0 hi), .int (lw_arg L 1 hi)] [.ref 7, .ref 1] (rx_tk L 12, hi2, hl2, rx_rF (k1ar8 (rx_row r 1 (fun _ => none)))) _
  refine w1b ?_
  show rx_aw 0 17 [.ref 0, rx_no, rx_no, rx_no] [.ref 1] (rx_tk L 89, k1bi12 hi2, k1bl12 hl2, k1br13 (rx_rF (k1ar8 (rx_row r 1 (fun _ => none))))) Q
  refine lw_b hL ?_
  have e : ∀ j, lw_arg L j (k1bi12 hi2) = lw_arg L j hi := by
    intro j
    unfold lw_arg
    have e1 : k1bi12 hi2 0 j = hi2 0 j := rfl
    have e2 : k1ai8 (rx_row hi 1 (fun _ => 0)) 0 j = hi 0 j := rfl
    rw [e1, F.1 0 j (by omega), e2]
  rw [e 0, e 1]
  exact k w h hi2 hl2 ew eh F
end RXC
