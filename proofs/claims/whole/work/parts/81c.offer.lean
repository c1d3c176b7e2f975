/-! few: offer, the steps, expand. -/
/-- the tables: END SQUARES' seats, steps, what is to go -/
def cf_Tb (g : Nat → Nat) (st : Nat → Nat → Nat → Nat) (hh : Nat → Nat → Nat) (hi : Nat → Nat → Int32) : Prop := (∀ i, i < 3 → hi 138 i = oI (g i)) ∧ (∀ i p m, i < 3 → p < 20 → m < 5 → hi 136 ((i * 21 + p) * 5 + m) = oI (st i p m)) ∧ (∀ i p, i < 3 → p ≤ 20 → hi 137 (i * 21 + p) = nI (hh i p))
def cf_Sq (hi : Nat → Nat → Int32) (s : Nat → Nat) : Prop := ∀ x, x < 9261 → hi 140 x = nI (s x)
def cf_se (hi : Nat → Nat → Int32) (x : Nat) : Prop := ∀ i, i < 3 → hi 139 i = nI (cf_p0 x i)
def cf_Q3 (g : Nat → Nat) (st : Nat → Nat → Nat → Nat) (hh : Nat → Nat → Nat) (s0 : Nat) (hi : Nat → Nat → Int32) (s : Nat → Nat) (cl : Nat → Bool) (X l e : Nat) : Prop := ∃ r tt K, cf_Rg hi r tt K ∧ cf_Sq hi s ∧ cf_J3 g st hh s0 s r cl X l e
theorem cf_Rg_ext {hi hi2 : Nat → Nat → Int32} {r tt : Nat → Nat} {K : Nat} (G : cf_Rg hi r tt K) (F : ∀ b, hi2 141 b = hi 141 b) (F2 : ∀ b, hi2 142 b = hi 142 b) : cf_Rg hi2 r tt K := by
  obtain ⟨nx, pr, R⟩ := G
  refine ⟨nx, pr, fun j hj hr => ?_⟩
  rw [F, F2]; exact R j hj hr
theorem cf_Q3_ext {g : Nat → Nat} {st : Nat → Nat → Nat → Nat} {hh : Nat → Nat → Nat} {s0 : Nat} {hi hi2 : Nat → Nat → Int32} {s : Nat → Nat} {cl : Nat → Bool} {X l e : Nat} (Q : cf_Q3 g st hh s0 hi s cl X l e) (F : ∀ a b, 140 ≤ a → a ≤ 142 → hi2 a b = hi a b) : cf_Q3 g st hh s0 hi2 s cl X l e := by
  obtain ⟨r, tt, K, G, S, J⟩ := Q
  exact ⟨r, tt, K, cf_Rg_ext G (fun b => F _ _ (by omega) (by omega)) (fun b => F _ _ (by omega) (by omega)), fun x hx => (F _ _ (by omega) (by omega)).trans (S x hx), J⟩
theorem cf_Tb_ext {g : Nat → Nat} {st : Nat → Nat → Nat → Nat} {hh : Nat → Nat → Nat} {hi hi2 : Nat → Nat → Int32} (T : cf_Tb g st hh hi) (F : ∀ a b, 136 ≤ a → a ≤ 138 → hi2 a b = hi a b) : cf_Tb g st hh hi2 :=
  ⟨fun i h => (F _ _ (by omega) (by omega)).trans (T.1 i h), fun i p m h1 h2 h3 => (F _ _ (by omega) (by omega)).trans (T.2.1 i p m h1 h2 h3), fun i p h1 h2 => (F _ _ (by omega) (by omega)).trans (T.2.2 i p h1 h2)⟩
section RXE
variable {L : Nat} {hi : Nat → Nat → Int32} {hl : Nat → Nat → Int64} {v : Nat → Nat → Option Nat}
variable {RI : Int32 → (Nat → Nat → Int32) → (Nat → Nat → Int64) → (Nat → Nat → Option Nat) → Prop}
variable {RV : (Nat → Nat → Int32) → (Nat → Nat → Int64) → (Nat → Nat → Option Nat) → Prop}
variable {g : Nat → Nat} {st : Nat → Nat → Nat → Nat} {hh : Nat → Nat → Nat} {s0 : Nat}
theorem c133 {x i : Nat} (hx : x < 2 ^ 31) (hi3 : i < 3) (k : RI (nI (cf_p0 x i)) hi hl v) : rx_CI L rx_tr 133 [.ref 134, .int (nI x), .int (nI i)] hi hl v RI := by
  have e21 : (21 : Int32) = nI 21 := rfl
  have e441 : (441 : Int32) = nI 441 := rfl
  refine w133_seatIn ⟨fun q => c_retIe k ?_, fun q => ⟨fun q2 => c_retIe k ?_, fun q2 => c_retIe k ?_⟩⟩
  · rw [show (0 : Int32) = nI 0 from rfl, nI_eq (by omega) (by omega)] at q
    subst q
    rw [e21, cf_nmod hx (by decide)]; rfl
  · rw [show (1 : Int32) = nI 1 from rfl, nI_eq (by omega) (by omega)] at q2
    subst q2
    rw [e21, cf_ndiv hx (by decide), cf_nmod (by omega) (by decide)]; rfl
  · rw [show (0 : Int32) = nI 0 from rfl, nI_eq (by omega) (by omega)] at q
    rw [show (1 : Int32) = nI 1 from rfl, nI_eq (by omega) (by omega)] at q2
    have : i = 2 := by omega
    subst this
    rw [e21, e441, cf_ndiv hx (by decide), cf_nmod (by omega) (by decide)]; rfl
theorem c132 (T : cf_Tb g st hh hi) {x : Nat} (hx : x < 2 ^ 31) (k : RI (nI (cf_h3 hh x)) hi hl v) : rx_CI L rx_tr 132 [.ref 134, .int (nI x)] hi hl v RI := by
  have stp : ∀ i y, i < 3 → rx_aw 132 4 [.ref 134, .int (nI x), .int (nI (y + hh i (cf_p0 x i))), .int (nI (i + 1))] [] (rx_hp L rx_tr hi hl v) (fun r h2 => ∃ z : Int32, r = some (.int z) ∧ rx_ok2 L rx_tr h2 (RI z)) → rx_aw 132 4 [.ref 134, .int (nI x), .int (nI y), .int (nI i)] [] (rx_hp L rx_tr hi hl v) (fun r h2 => ∃ z : Int32, r = some (.int z) ∧ rx_ok2 L rx_tr h2 (RI z)) := by
    intro i y h3 kk
    have lt := cf_p0_lt x i
    refine w132_farFrom_4 ⟨fun q => ?_, fun _ => c133 hx h3 ⟨i * 21 + cf_p0 x i, ?_, by omega, ?_⟩⟩
    · rw [show (3 : Int32) = nI 3 from rfl, cf_nle (by omega) (by omega)] at q; omega
    · rw [show (21 : Int32) = nI 21 from rfl, cf_nmul, nI_add]
    · rw [T.2.2 i _ h3 (by omega), nI_add, show nI i + 1 = nI (i + 1) from nI_add i 1]; exact kk
  refine w132_farFrom (stp 0 0 (by omega) (stp 1 _ (by omega) (stp 2 _ (by omega) (w132_farFrom_4 ⟨fun _ => c_retIe k ?_, fun q => absurd ?_ q⟩))))
  · unfold cf_h3; rw [Nat.zero_add]
  · exact (by decide : (3 : Int32) ≤ nI (2 + 1))
/-- a sum is offered -/
theorem c137 (F : cf_GF g st hh) (T : cf_Tb g st hh hi) {s : Nat → Nat} {cl : Nat → Bool} {X l y n : Nat} (Q : cf_Q3 g st hh s0 hi s cl X l 0) (hy : y < 9261) (hn : n < 1000000) (R : cf_Re g st s0 y n) (h3 : cf_h3 hh y < 1000000) (h1 : l ≤ n + cf_h3 hh y) (h2 : n + cf_h3 hh y ≤ l + 6)
    (k : ∀ hi2 s2, (∀ a b, ¬ (140 ≤ a ∧ a ≤ 142) → hi2 a b = hi a b) → cf_Q3 g st hh s0 hi2 s2 cl X l 0 → (∀ x, s2 x ≤ s x) → (∀ x, x < 9261 → cl x = true → s2 x = s x) → s2 y ≤ n → RV hi2 hl v) : rx_CV L rx_tr 137 [.ref 134, .int (nI y), .int (nI n)] hi hl v RV := by
  obtain ⟨r, tt, K, G, S, J⟩ := id Q
  have sy := S y hy
  obtain ⟨j1, j2, j3, j4, j5, j6⟩ := J.1 y hy
  have hb := cf_h3_189 F h3
  have dec : n < s y → ∀ x, cf_fu s y n x ≤ s x := fun z x => by
    unfold cf_fu; split
    · rename_i q; subst q; omega
    · omega
  have cle : n < s y → ∀ x, x < 9261 → cl x = true → cf_fu s y n x = s x := fun z x hx hc => by
    refine cf_fu_ne (fun q => ?_)
    subst q
    have := (j6 hc).2.2.2.1
    omega
  have up : ∀ hi' : Nat → Nat → Int32, cf_Sq hi' s → cf_Sq (rx_u hi' 140 y (nI n)) (cf_fu s y n) := fun hi' S' x hx => by
    by_cases q : x = y
    · subst q; rw [cf_ru_eq, cf_fu_eq]
    · rw [cf_ru_ne (by omega), cf_fu_ne q]; exact S' x hx
  have ea : ∀ z : Nat, nI n + nI z = nI (n + z) := fun z => nI_add n z
  refine w137_offer ⟨y, rfl, hy, fun q => ⟨y, rfl, hy, fun q2 => ⟨y, rfl, hy, ?_⟩, fun q2 => ?_⟩, fun q => c_retV (k hi s (fun _ _ _ => rfl) Q (fun _ => Nat.le_refl _) (fun _ _ _ => rfl) ?_)⟩
  · rw [sy, cf_lt, nI_toInt (by omega), nI_toInt (by omega)] at q
    rw [sy, show (1000000 : Int32) = nI 1000000 from rfl, cf_nle (by omega) (by omega)] at q2
    have r0 : r y = 0 := by
      rcases Nat.eq_zero_or_pos (r y) with z | z
      · exact z
      · have := (j4 z).2.1; omega
    refine c132 (g := g) (st := st) (hh := hh) (cf_Tb_ext T (fun a b q1 q2 => cf_ru_ne (by omega))) (by omega) ?_
    rw [ea]
    refine c134 (r := r) (tt := tt) (K := K) (cf_Rg_ext G (fun b => cf_ru_ne (by omega)) (fun b => cf_ru_ne (by omega))) hy r0 (by omega) (fun hi2 F2 G2 => c_retV (k hi2 (cf_fu s y n) (fun a b q1 => ?_) ⟨_, _, _, G2, ?_, cf_J3_off J hy hn R h3 h1 h2 (by omega)⟩ (dec (by omega)) (cle (by omega)) (by rw [cf_fu_eq]; omega)))
    · rw [F2 a b (by omega) (by omega), cf_ru_ne (by omega)]
    · intro x hx
      rw [F2 _ _ (by omega) (by omega)]; exact up hi S x hx
  · rw [sy, cf_lt, nI_toInt (by omega), nI_toInt (by omega)] at q
    rw [sy, show (1000000 : Int32) = nI 1000000 from rfl, cf_nle (by omega) (by omega)] at q2
    have r0 : 0 < r y := by
      rcases Nat.eq_zero_or_pos (r y) with z | z
      · have := (j6 (j5 z (by omega))).2.2.2.1; omega
      · exact z
    refine c135 G hy r0 (fun hi1 F1 G1 => ⟨y, rfl, hy, ?_⟩)
    refine c132 (g := g) (st := st) (hh := hh) (cf_Tb_ext T (fun a b q1 q2 => by rw [cf_ru_ne (by omega)]; exact F1 a b (by omega) (by omega))) (by omega) ?_
    rw [ea]
    refine c134 (r := cf_fu r y 0) (tt := tt) (K := K) (cf_Rg_ext G1 (fun b => cf_ru_ne (by omega)) (fun b => cf_ru_ne (by omega))) hy cf_fu_eq (by omega) (fun hi2 F2 G2 => c_retV (k hi2 (cf_fu s y n) (fun a b q1 => ?_) ⟨cf_fu r y ((n + cf_h3 hh y) % 8 + 1), cf_fu tt y K, K + 1, ?_, ?_, cf_J3_off J hy hn R h3 h1 h2 (by omega)⟩ (dec (by omega)) (cle (by omega)) (by rw [cf_fu_eq]; omega)))
    · rw [F2 a b (by omega) (by omega), cf_ru_ne (by omega)]; exact F1 a b (by omega) (by omega)
    · have : cf_fu (cf_fu r y 0) y ((n + cf_h3 hh y) % 8 + 1) = cf_fu r y ((n + cf_h3 hh y) % 8 + 1) := by
        funext x
        unfold cf_fu
        by_cases z : x = y
        · rw [if_pos z, if_pos z]
        · rw [if_neg z, if_neg z, if_neg z]
      rw [this] at G2; exact G2
    · intro x hx
      rw [F2 _ _ (by omega) (by omega)]
      exact up hi1 (fun x hx => (F1 _ _ (by omega) (by omega)).trans (S x hx)) x hx
  · rw [sy, cf_lt, nI_toInt (by omega), nI_toInt (by omega)] at q; omega
theorem c138 (F : cf_GF g st hh) (T : cf_Tb g st hh hi) {X i m : Nat} (E : cf_se hi X) (hi3 : i < 3) (hm : m < 5) (k : RI (oI (cf_nxs st X i m)) hi hl v) : rx_CI L rx_tr 138 [.ref 134, .int (nI i), .int (nI m)] hi hl v RI := by
  have lt := cf_p0_lt X i
  have e20 : (20 : Int32) = nI 20 := rfl
  refine w138_stepOf ⟨i, rfl, hi3, fun q => ⟨fun q2 => c_retIe k ?_, fun q2 => c_retIe k ?_⟩, fun q => ⟨i, rfl, hi3, (i * 21 + cf_p0 X i) * 5 + m, ?_, ?_, c_retIe k ?_⟩⟩
  all_goals rw [E i hi3, e20, nI_eq (by omega) (by omega)] at q
  · rw [show (0 : Int32) = nI 0 from rfl, nI_eq (by omega) (by omega)] at q2
    unfold cf_nxs; rw [if_pos q, if_pos q2]; rfl
  · rw [show (0 : Int32) = nI 0 from rfl, nI_eq (by omega) (by omega)] at q2
    unfold cf_nxs; rw [if_pos q, if_neg q2]; rfl
  · rw [E i hi3, show (21 : Int32) = nI 21 from rfl, cf_nmul, nI_add, show (5 : Int32) = nI 5 from rfl, cf_nmul, nI_add]
  · omega
  · unfold cf_nxs; rw [if_neg q, T.2.1 i _ m hi3 (by omega) hm]
theorem c140 (T : cf_Tb g st hh hi) {i p : Nat} (hi3 : i < 3) (hp : p ≤ 20) (k : RI (oI (cf_plc g i p)) hi hl v) : rx_CI L rx_tr 140 [.ref 134, .int (nI i), .int (nI p)] hi hl v RI := by
  refine w140_placeOf ⟨fun q => ⟨i, rfl, hi3, c_retIe k ?_⟩, fun q => c_retIe k ?_⟩
  all_goals rw [show (20 : Int32) = nI 20 from rfl, nI_eq (by omega) (by omega)] at q
  · unfold cf_plc; rw [if_pos q, T.1 i hi3]
  · unfold cf_plc; rw [if_neg q, cf_oS]
theorem cf_plc_le (F : cf_GF g st hh) {i p : Nat} (hi3 : i < 3) (hp : p ≤ 20) : cf_plc g i p ≤ 21 := by
  have := F.1 i hi3
  unfold cf_plc; split <;> omega
theorem c139 (F : cf_GF g st hh) (T : cf_Tb g st hh hi) {X i a j b : Nat} (E : cf_se hi X) (hi3 : i < 3) (hj3 : j < 3) (ha : a ≤ 20) (hb : b ≤ 20) (k : RI (cf_B (cf_col g X i a j b)) hi hl v) : rx_CI L rx_tr 139 [.ref 134, .int (nI i), .int (nI a), .int (nI j), .int (nI b)] hi hl v RI := by
  have li := cf_p0_lt X i
  have lj := cf_p0_lt X j
  have p1 := cf_plc_le F (i := i) (p := a) hi3 ha
  have p2 := cf_plc_le F (i := j) (p := b) hj3 hb
  have p3 := cf_plc_le F (i := i) (p := cf_p0 X i) hi3 (by omega)
  have p4 := cf_plc_le F (i := j) (p := cf_p0 X j) hj3 (by omega)
  refine w139_collide ⟨i, rfl, hi3, ?_⟩
  rw [E i hi3]
  refine c140 T hi3 (by omega) (c140 T hi3 ha ⟨j, rfl, hj3, ?_⟩)
  rw [E j hj3]
  refine c140 T hj3 (by omega) (c140 T hj3 hb ?_)
  unfold cf_col at k
  generalize cf_plc g i a = A1 at *
  generalize cf_plc g j b = B1 at *
  generalize cf_plc g i (cf_p0 X i) = A0 at *
  generalize cf_plc g j (cf_p0 X j) = B0 at *
  rw [cf_oneg (by omega), cf_oneg (by omega), cf_oeq (by omega) (by omega), cf_oeq (by omega) (by omega), cf_oeq (by omega) (by omega)]
  refine ⟨fun q => c_retIe k ?_, fun q => ⟨fun q2 => c_retIe k ?_, fun q2 => ⟨fun q3 => c_retIe k ?_, fun q3 => ⟨fun q4 => ⟨fun q5 => c_retIe k ?_, fun q5 => c_retIe k ?_⟩, fun q4 => c_retIe k ?_⟩⟩⟩⟩
  · rw [decide_eq_false (show ¬ 0 < A1 by omega)]; rfl
  · rw [decide_eq_false (show ¬ 0 < B1 by omega), Bool.and_false]; rfl
  · rw [decide_eq_true (show 0 < A1 by omega), decide_eq_true (show 0 < B1 by omega), decide_eq_true q3]; rfl
  · rw [decide_eq_true (show 0 < A1 by omega), decide_eq_true (show 0 < B1 by omega), decide_eq_true q4, decide_eq_true q5, Bool.and_true, Bool.or_true]; rfl
  · rw [decide_eq_false q3, decide_eq_false q5, Bool.and_false, Bool.or_false, Bool.and_false]; rfl
  · rw [decide_eq_false q3, decide_eq_false q4, Bool.false_and, Bool.or_false, Bool.and_false]; rfl
end RXE
