/-! The Floor, while it is made: fill, next, stateOf, findTurn. -/
theorem w7F {L : Nat} {hi : Nat → Nat → Int32} {hl : Nat → Nat → Int64} {v : Nat → Nat → Option Nat} {Q : Option Value → rx_H → Prop} {a1 : Int32} (k : rx_aw 7 5 [.ref 10, .int a1, .int (0 : Int32), .int (2560 : Int32)] [] (rx_hF L hi hl v) Q) : rx_me 7 [.ref 10, .int a1] (rx_hF L hi hl v) Q := by
  show rx_aw 7 0 [.ref 10, .int a1, rx_no, rx_no] [] (rx_hF L hi hl v) Q
  refine rx_aw_s 3 (pc := 0) rfl ?_
  show rx_aw 7 3 [.ref 10, .int a1, .int (0 : Int32), rx_no] [.ref 10] (rx_hF L hi hl v) Q
  refine rx_aw_s 1 (pc := 3) rfl ?_
  show rx_aw 7 4 [.ref 10, .int a1, .int (0 : Int32), rx_no] [.int (2560 : Int32)] (rx_hF L hi hl v) Q
  refine rx_aw_s 1 (pc := 4) rfl ?_
  show rx_aw 7 5 [.ref 10, .int a1, .int (0 : Int32), .int (2560 : Int32)] [] (rx_hF L hi hl v) Q
  exact k
theorem w7F_5 {L : Nat} {hi : Nat → Nat → Int32} {hl : Nat → Nat → Int64} {v : Nat → Nat → Option Nat} {Q : Option Value → rx_H → Prop} {x1 : Int32} {x2 : Int32} {x3 : Int32} (k : ((x3 ≤ x2 → Q none (rx_hF L hi hl v)) ∧ (¬ (x3 ≤ x2) → (∃ j2 : Nat, x2 = nI j2 ∧ j2 < 2560 ∧ rx_aw 7 5 [.ref 10, .int x1, .int (x2 + (1 : Int32)), .int x3] [] (rx_hF L (rx_u hi 10 j2 x1) hl v) Q)))) : rx_aw 7 5 [.ref 10, .int x1, .int x2, .int x3] [] (rx_hF L hi hl v) Q := by
  refine rx_aw_s 3 (pc := 5) rfl ?_
  refine rx_w_if (c := x3 ≤ x2) ⟨fun c1 => ?_, fun c1 => ?_⟩
  · have k := k.1 c1
    show rx_aw 7 20 [.ref 10, .int x1, .int x2, .int x3] [] (rx_hF L hi hl v) Q
    exact rx_aw_ret (pc := 20) rfl k
  · have k := k.2 c1
    show rx_aw 7 10 [.ref 10, .int x1, .int x2, .int x3] [] (rx_hF L hi hl v) Q
    refine rx_aw_s 3 (pc := 10) rfl ?_
    show rx_aw 7 13 [.ref 10, .int x1, .int x2, .int x3] [.int x1, .int x2, .ref 10] (rx_hF L hi hl v) Q
    obtain ⟨j2, ej2, hj2, k⟩ := k
    refine rx_aw_iast (pc := 13) (n := 2560) j2 ej2 rfl rfl (by decide) rfl hj2 (by decide) ?_
    show rx_aw 7 14 [.ref 10, .int x1, .int x2, .int x3] [] (rx_hF L (rx_u hi 10 j2 x1) hl v) Q
    refine rx_aw_s 2 (pc := 14) rfl ?_
    show rx_aw 7 5 [.ref 10, .int x1, .int (x2 + (1 : Int32)), .int x3] [] (rx_hF L (rx_u hi 10 j2 x1) hl v) Q
    exact k
section RXE
variable {L : Nat} {hi : Nat → Nat → Int32} {hl : Nat → Nat → Int64} {v : Nat → Nat → Option Nat}
variable {RI : Int32 → (Nat → Nat → Int32) → (Nat → Nat → Int64) → (Nat → Nat → Option Nat) → Prop}
variable {RL : Int64 → (Nat → Nat → Int32) → (Nat → Nat → Int64) → (Nat → Nat → Option Nat) → Prop}
variable {RV : (Nat → Nat → Int32) → (Nat → Nat → Int64) → (Nat → Nat → Option Nat) → Prop}
theorem c7F {hi0 : Nat → Nat → Int32} {y : Int32} (k : ∀ hi2, (∀ i j, ¬ i = 10 → hi2 i j = hi0 i j) → (∀ j, j < 2560 → hi2 10 j = y) → RV hi2 hl v) :
    rx_CVF L 7 [.ref 10, .int y] hi0 hl v RV := by
  have lp : ∀ d i, i + d = 2560 → ∀ hi : Nat → Nat → Int32, (∀ x y, ¬ x = 10 → hi x y = hi0 x y) → (∀ j, j < i → hi 10 j = y) → rx_aw 7 5 [.ref 10, .int y, .int (nI i), .int 2560] [] (rx_hF L hi hl v) (fun r h2 => r = none ∧ rx_okF L h2 RV) := by
    intro d
    induction d with
    | zero =>
      intro i hid hi F W
      refine w7F_5 ⟨fun g => c_retVF (k hi F (fun j hj => W j (by omega))), fun g => absurd ?_ g⟩
      rw [show (2560 : Int32) = nI 2560 from rfl, cf_nle (by omega) (by omega)]; omega
    | succ d ih =>
      intro i hid hi F W
      refine w7F_5 ⟨fun g => ?_, fun g => ⟨i, rfl, by omega, ?_⟩⟩
      · rw [show (2560 : Int32) = nI 2560 from rfl, cf_nle (by omega) (by omega)] at g; omega
      · rw [show nI i + 1 = nI (i + 1) from nI_add i 1]
        refine ih (i + 1) (by omega) _ (fun x y q => ?_) (fun j hj => ?_)
        · rw [cf_ru_ne (by omega)]; exact F x y q
        · by_cases e : j = i
          · subst e; rw [cf_ru_eq]
          · rw [cf_ru_ne (by omega)]; exact W j (by omega)
  exact w7F (lp 2560 0 (by omega) hi0 (fun _ _ _ => rfl) (fun j hj => by omega))
theorem cf_in_bt {w h q : Nat} (hq : q < w * h) : cf_in w h (cf_bt q) := by
  intro p hp
  rw [cf_hbt, Bool.and_eq_true, decide_eq_true_iff, decide_eq_true_iff] at hp
  rw [← hp.2]; exact hq
theorem cf_shf_bt {w h q d : Nat} (hwh : w * h ≤ 64) (hq : q < w * h) (hd : d < 4) : cf_shf w h (cf_bt q) d = (match cf_step w h q d with | none => 0 | some p => cf_bt p) := by
  apply cf_ext
  intro p hp
  apply Bool.eq_iff_iff.mpr
  rw [cf_shf_from hwh hd (cf_in_bt hq)]
  constructor
  · rintro ⟨r, hr, e, hb⟩
    rw [cf_hbt, Bool.and_eq_true, decide_eq_true_iff, decide_eq_true_iff] at hb
    obtain ⟨_, rfl⟩ := hb
    rw [e]
    show cf_has (cf_bt p) p = true
    rw [cf_hbt, decide_eq_true hp, decide_eq_true rfl]; rfl
  · intro hb
    cases e : cf_step w h q d with
    | none =>
      rw [e] at hb
      have hb : cf_has 0 p = true := hb
      rw [cf_h0] at hb; cases hb
    | some r =>
      rw [e] at hb
      have hb : cf_has (cf_bt r) p = true := hb
      rw [cf_hbt, Bool.and_eq_true, decide_eq_true_iff, decide_eq_true_iff] at hb
      obtain ⟨_, rfl⟩ := hb
      refine ⟨q, hq, e, ?_⟩
      rw [cf_hbt, decide_eq_true (show q < 64 by omega), decide_eq_true rfl]; rfl
theorem cf_btn0 {p : Nat} (hp : p < 64) : ¬ cf_bt p = 0 := by
  intro e
  have h1 : cf_has (cf_bt p) p = true := by rw [cf_hbt, decide_eq_true hp, decide_eq_true rfl]; rfl
  rw [e, cf_h0] at h1; cases h1
theorem c11F {w h : Nat} (K1 : cf_K1 w h hi) (K3 : cf_K3 w h hl) {q d : Nat} (hq : q < w * h) (hd : d < 4) (k : RI (oO (cf_step w h q d)) hi hl v) : rx_CIF L 11 [.ref 7, .int (nI q), .int (nI d)] hi hl v RI := by
  have hwh := cf_wh K1
  have e0 := cf_shf_bt hwh hq hd
  refine w11_nextF (c9F (by omega) (c12F K1 K3 (cf_in_bt hq) hd ⟨fun c => c_retIF ?_, fun c => c13F (c_retIF ?_)⟩))
  · rw [cf_cmp0, e0] at c
    cases e : cf_step w h q d with
    | none => rw [e] at k; exact k
    | some p =>
      rw [e] at c
      exact absurd c (cf_btn0 (cf_step_64 hwh hq e))
  · rw [cf_cmp0, e0] at c
    rw [e0]
    cases e : cf_step w h q d with
    | none => rw [e] at c; exact absurd rfl c
    | some p =>
      rw [e] at k
      show RI (nI (cf_pop (cf_bt p - 1))) hi hl v
      rw [cf_pop_bt (cf_step_64 hwh hq e)]
      exact k
theorem c14F {o : Option Nat} {d : Nat} (ho : ∀ r, o = some r → r < 64) (k : RI (oO (o.map (fun q => q + 64 * d))) hi hl v) : rx_CIF L 14 [.ref 7, .int (oO o), .int (nI d)] hi hl v RI := by
  cases o with
  | none => exact w14_stateOfF ⟨fun c => absurd c (by decide), fun c => c_retIF k⟩
  | some r =>
    have hr := ho r rfl
    refine w14_stateOfF ⟨fun c => c_retIF ?_, fun c => absurd (nI_pos' (show r < 2 ^ 31 by omega)) c⟩
    have e : nI r ||| (nI d <<< ((6 : Int32) &&& 31)) = nI (r + 64 * d) := by
      rw [show (6 : Int32) = nI 6 from rfl, cf_nshl d 6 (by decide), cf_nor]
      congr 1
      exact cf_or6 hr
    show RI (nI r ||| (nI d <<< ((6 : Int32) &&& 31))) hi hl v
    rw [e]; exact k
theorem cf_xor2 {d : Nat} (hd : d < 4) : nI d ^^^ (2 : Int32) = nI (cf_opp d) := by
  match d, hd with
  | 0, _ => decide
  | 1, _ => decide
  | 2, _ => decide
  | 3, _ => decide
theorem cf_an3 {d : Nat} (hd : d < 4) : (nI d + (3 : Int32)) &&& (3 : Int32) = nI (cf_lf d) ∧ (nI d + (1 : Int32)) &&& (3 : Int32) = nI (cf_rt d) := by
  match d, hd with
  | 0, _ => decide
  | 1, _ => decide
  | 2, _ => decide
  | 3, _ => decide
theorem cf_oO_neg {o : Option Nat} (h : ∀ r, o = some r → r < 64) : oO o < 0 ↔ o = none := by
  cases o with
  | none => exact ⟨fun _ => rfl, fun _ => by decide⟩
  | some r =>
    refine ⟨fun q => absurd q (nI_pos (by have := h r rfl; omega)), fun q => by cases q⟩
theorem cf_ru2 {α : Type} (f : Nat → Nat → α) (i k : Nat) (x : α) (a b : Nat) : rx_u f i k x a b = if a = i ∧ b = k then x else f a b := by
  by_cases h : a = i ∧ b = k
  · rw [if_pos h, h.1, h.2, cf_ru_eq]
  · rw [if_neg h, cf_ru_ne h]
theorem cf_K1_u {w h : Nat} (K1 : cf_K1 w h hi) {hi2 : Nat → Nat → Int32} (F : ∀ b, hi2 7 b = hi 7 b) : cf_K1 w h hi2 := by
  obtain ⟨a1, a2, a3, a4, a5, a6⟩ := K1
  exact ⟨a1, a2, a3, a4, (F 0).trans a5, (F 1).trans a6⟩
theorem cf_K3_u {w h : Nat} (K3 : cf_K3 w h hl) {hl2 : Nat → Nat → Int64} (F : ∀ b, hl2 7 b = hl 7 b) : cf_K3 w h hl2 := by
  intro q hq
  rw [F 2, F 3, F 4]
  exact K3 q hq
/-- one TURN of a cart of two squares -/
theorem c17F {w h s m to b : Nat} (K1 : cf_K1 w h hi) (K3 : cf_K3 w h hl) (hs : s < 256) (hsq : s % 64 < w * h) (hm : m = 3 ∨ m = 4) (hto : to < 4) (hb : cf_step w h (s % 64) (cf_opp (s / 64 % 4)) = some b)
    (k0 : cf_tn w h s to = none → RV hi hl v) (k1 : ∀ n c, cf_tn w h s to = some (b, n, c) → RV (rx_u hi 10 (1280 + (256 * m + s)) (nI (n + 64 * to))) (rx_u hl 12 (256 * (m - 3) + s) (hl 11 (256 + s) ||| cf_bt n ||| cf_bt c)) v) : rx_CVF L 17 [.ref 7, .int (nI s), .int (nI m), .int (nI to)] hi hl v RV := by
  have hwh := cf_wh K1
  have hbl := cf_step_lt hsq hb
  have hd : s / 64 % 4 < 4 := by omega
  have hc64 : ∀ r, cf_step w h (s % 64) to = some r → r < 64 := fun r e => cf_step_64 hwh hsq e
  have hn64 : ∀ r, cf_step w h b to = some r → r < 64 := fun r e => cf_step_64 hwh hbl e
  refine w17_findTurnF (c8F (c11F K1 K3 hsq hto (c8F (c16F (by omega) ?_))))
  rw [cf_xor2 hd]
  refine c11F K1 K3 hsq (cf_opp_lt _) ?_
  rw [hb]
  refine c11F K1 K3 hbl hto ⟨fun c => c_retVF (k0 ?_), fun c => ⟨fun c2 => c_retVF (k0 ?_), fun c2 => c14F hn64 ⟨1280 + (256 * m + s), ?_, by omega, 256 + s, ?_, by omega, ?_⟩⟩⟩
  · rw [cf_oO_neg hc64] at c
    unfold cf_tn; rw [hb]; dsimp only; rw [c]
    cases cf_step w h b to <;> rfl
  · rw [cf_oO_neg hn64] at c2
    unfold cf_tn; rw [hb]; dsimp only; rw [c2]
  · rw [show (1280 : Int32) = nI 1280 from rfl, show (256 : Int32) = nI 256 from rfl, cf_nmul, nI_add, nI_add]; congr 1; omega
  · rw [show (256 : Int32) = nI 256 from rfl, nI_add]
  · rw [cf_oO_neg hc64] at c
    rw [cf_oO_neg hn64] at c2
    obtain ⟨cc, hcc⟩ : ∃ cc, cf_step w h (s % 64) to = some cc := by
      cases e : cf_step w h (s % 64) to with
      | none => exact absurd e c
      | some x => exact ⟨x, rfl⟩
    obtain ⟨nn, hnn⟩ : ∃ nn, cf_step w h b to = some nn := by
      cases e : cf_step w h b to with
      | none => exact absurd e c2
      | some x => exact ⟨x, rfl⟩
    have ht : cf_tn w h s to = some (b, nn, cc) := by unfold cf_tn; rw [hb]; dsimp only; rw [hnn, hcc]
    rw [hnn, hcc]
    refine c9F (hn64 nn hnn) (c9F (hc64 cc hcc) ⟨256 * (m - 3) + s, ?_, by omega, c_retVF (k1 nn cc ht)⟩)
    rw [show (256 : Int32) = nI 256 from rfl, show (3 : Int32) = nI 3 from rfl, cf_nsub (by omega), cf_nmul, nI_add]; congr 1; omega
end RXE
