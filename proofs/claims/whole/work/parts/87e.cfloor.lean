/-! The Floor's constructor: the tables. -/
section RXC
variable {L : Nat} {hi : Nat → Nat → Int32} {hl : Nat → Nat → Int64} {v : Nat → Nat → Option Nat} {Q : Option Value → rx_H → Prop}
set_option maxRecDepth 100000 in
theorem w6c {x y z : Int32} {a b c : Int64} (k : rx_me 7 [.ref 10, .int (-1 : Int32)] (rx_hF L hi (rx_u (rx_u (rx_u hl 7 2 c) 7 3 (c &&& (a ^^^ -1))) 7 4 (c &&& (b ^^^ -1))) v) (fun r h2 => r = none ∧ rx_okF L h2 (fun hi1 hl1 v1 => rx_aw 6 166 [.ref 7, .int x, .int y, .long a, rx_no, .long b, rx_no, .long c, rx_no, .int (0 : Int32)] [] (rx_hF L hi1 hl1 v1) Q))) : rx_aw 6 124 [.ref 7, .int x, .int y, .long a, rx_no, .long b, rx_no, .long c, rx_no, .int z] [] (rx_hF L hi hl v) Q := by
  refine rx_aw_s 3 (pc := 124) rfl ?_
  show rx_aw 6 130 [.ref 7, .int x, .int y, .long a, rx_no, .long b, rx_no, .long c, rx_no, .int z] [] (rx_hF L hi (rx_u hl 7 2 c) v) Q
  refine rx_aw_s 7 (pc := 130) rfl ?_
  show rx_aw 6 142 [.ref 7, .int x, .int y, .long a, rx_no, .long b, rx_no, .long c, rx_no, .int z] [] (rx_hF L hi (rx_u (rx_u hl 7 2 c) 7 3 (c &&& (a ^^^ -1))) v) Q
  refine rx_aw_s 7 (pc := 142) rfl ?_
  show rx_aw 6 155 [.ref 7, .int x, .int y, .long a, rx_no, .long b, rx_no, .long c, rx_no, .int z] [] (rx_hF L hi (rx_u (rx_u (rx_u hl 7 2 c) 7 3 (c &&& (a ^^^ -1))) 7 4 (c &&& (b ^^^ -1))) v) Q
  refine rx_aw_s 3 (pc := 155) rfl ?_
  show rx_aw 6 160 [.ref 7, .int x, .int y, .long a, rx_no, .long b, rx_no, .long c, rx_no, .int z] [.int (-1 : Int32), .ref 10] (rx_hF L hi (rx_u (rx_u (rx_u hl 7 2 c) 7 3 (c &&& (a ^^^ -1))) 7 4 (c &&& (b ^^^ -1))) v) Q
  refine rx_w_callV (j := 7) (pc := 160) rfl rfl rfl rfl rfl ?_
  refine rx_aw.mono k (fun r h2 k => ?_)
  obtain ⟨rfl, hi1, hl1, v1, rfl, k⟩ := k
  refine ⟨rfl, ?_⟩
  show rx_aw 6 163 [.ref 7, .int x, .int y, .long a, rx_no, .long b, rx_no, .long c, rx_no, .int z] [] (rx_hF L hi1 hl1 v1) Q
  refine rx_aw_s 2 (pc := 163) rfl ?_
  exact k
set_option maxRecDepth 100000 in
theorem w6d {x y s : Int32} {a b c : Int64} (k : ((256 : Int32) ≤ s → Q none (rx_hF L hi hl v)) ∧ (¬ (256 : Int32) ≤ s → rx_me 8 [.int s] (rx_hF L hi hl v) (fun r h2 => ∃ z1 : Int32, r = some (.int z1) ∧ rx_okF L h2 (fun hi1 hl1 v1 => rx_me 9 [.int z1] (rx_hF L hi1 hl1 v1) (fun r h2 => ∃ z2 : Int64, r = some (.long z2) ∧ rx_okF L h2 (fun hi2 hl2 v2 => (lg_cmp (c &&& z2) 0 = 0 → rx_aw 6 166 [.ref 7, .int x, .int y, .long a, rx_no, .long b, rx_no, .long c, rx_no, .int (s + 1)] [] (rx_hF L hi2 hl2 v2) Q) ∧ (¬ lg_cmp (c &&& z2) 0 = 0 → rx_me 10 [.ref 7, .int s] (rx_hF L hi2 hl2 v2) (fun r h2 => r = none ∧ rx_okF L h2 (fun hi3 hl3 v3 => rx_me 15 [.ref 7, .int s] (rx_hF L hi3 hl3 v3) (fun r h2 => r = none ∧ rx_okF L h2 (fun hi4 hl4 v4 => rx_aw 6 166 [.ref 7, .int x, .int y, .long a, rx_no, .long b, rx_no, .long c, rx_no, .int (s + 1)] [] (rx_hF L hi4 hl4 v4) Q))))))))))) : rx_aw 6 166 [.ref 7, .int x, .int y, .long a, rx_no, .long b, rx_no, .long c, rx_no, .int s] [] (rx_hF L hi hl v) Q := by
  refine rx_aw_s 3 (pc := 166) rfl ?_
  refine rx_w_if (c := (256 : Int32) ≤ s) ⟨fun c1 => ?_, fun c1 => ?_⟩
  · have k := k.1 c1
    show rx_aw 6 208 [.ref 7, .int x, .int y, .long a, rx_no, .long b, rx_no, .long c, rx_no, .int s] [] (rx_hF L hi hl v) Q
    exact rx_aw_ret (pc := 208) rfl k
  · have k := k.2 c1
    show rx_aw 6 174 [.ref 7, .int x, .int y, .long a, rx_no, .long b, rx_no, .long c, rx_no, .int s] [] (rx_hF L hi hl v) Q
    refine rx_aw_s 2 (pc := 174) rfl ?_
    show rx_aw 6 178 [.ref 7, .int x, .int y, .long a, rx_no, .long b, rx_no, .long c, rx_no, .int s] [.int s, .long c] (rx_hF L hi hl v) Q
    refine rx_w_callI (j := 8) (pc := 178) rfl rfl rfl rfl rfl ?_
    refine rx_aw.mono k (fun r h2 k => ?_)
    obtain ⟨z1, rfl, hi1, hl1, v1, rfl, k⟩ := k
    refine ⟨z1, rfl, ?_⟩
    show rx_aw 6 181 [.ref 7, .int x, .int y, .long a, rx_no, .long b, rx_no, .long c, rx_no, .int s] [.int z1, .long c] (rx_hF L hi1 hl1 v1) Q
    refine rx_w_callL (j := 9) (pc := 181) rfl rfl rfl rfl rfl ?_
    refine rx_aw.mono k (fun r h2 k => ?_)
    obtain ⟨z2, rfl, hi2, hl2, v2, rfl, k⟩ := k
    refine ⟨z2, rfl, ?_⟩
    show rx_aw 6 184 [.ref 7, .int x, .int y, .long a, rx_no, .long b, rx_no, .long c, rx_no, .int s] [.long z2, .long c] (rx_hF L hi2 hl2 v2) Q
    refine rx_aw_s 4 (pc := 184) rfl ?_
    refine rx_w_if (c := lg_cmp (c &&& z2) 0 = 0) ⟨fun c2 => ?_, fun c2 => ?_⟩
    · have k := k.1 c2
      show rx_aw 6 202 [.ref 7, .int x, .int y, .long a, rx_no, .long b, rx_no, .long c, rx_no, .int s] [] (rx_hF L hi2 hl2 v2) Q
      refine rx_aw_s 2 (pc := 202) rfl ?_
      exact k
    · have k := k.2 c2
      show rx_aw 6 190 [.ref 7, .int x, .int y, .long a, rx_no, .long b, rx_no, .long c, rx_no, .int s] [] (rx_hF L hi2 hl2 v2) Q
      refine rx_aw_s 2 (pc := 190) rfl ?_
      show rx_aw 6 193 [.ref 7, .int x, .int y, .long a, rx_no, .long b, rx_no, .long c, rx_no, .int s] [.int s, .ref 7] (rx_hF L hi2 hl2 v2) Q
      refine rx_w_callV (j := 10) (pc := 193) rfl rfl rfl rfl rfl ?_
      refine rx_aw.mono k (fun r h2 k => ?_)
      obtain ⟨rfl, hi3, hl3, v3, rfl, k⟩ := k
      refine ⟨rfl, ?_⟩
      show rx_aw 6 196 [.ref 7, .int x, .int y, .long a, rx_no, .long b, rx_no, .long c, rx_no, .int s] [] (rx_hF L hi3 hl3 v3) Q
      refine rx_aw_s 2 (pc := 196) rfl ?_
      show rx_aw 6 199 [.ref 7, .int x, .int y, .long a, rx_no, .long b, rx_no, .long c, rx_no, .int s] [.int s, .ref 7] (rx_hF L hi3 hl3 v3) Q
      refine rx_w_callV (j := 15) (pc := 199) rfl rfl rfl rfl rfl ?_
      refine rx_aw.mono k (fun r h2 k => ?_)
      obtain ⟨rfl, hi4, hl4, v4, rfl, k⟩ := k
      refine ⟨rfl, ?_⟩
      show rx_aw 6 202 [.ref 7, .int x, .int y, .long a, rx_no, .long b, rx_no, .long c, rx_no, .int s] [] (rx_hF L hi4 hl4 v4) Q
      refine rx_aw_s 2 (pc := 202) rfl ?_
      exact k
end RXC
/-- the tables' rows of one state -/
def cf_ent (w h s : Nat) (hi : Nat → Nat → Int32) (hl : Nat → Nat → Int64) : Prop :=
  hl 11 s = cf_std w h false s ∧ hl 11 (256 + s) = cf_std w h true s ∧ hl 12 s = cf_four w h s 3 ∧ hl 12 (256 + s) = cf_four w h s 4
  ∧ (∀ m, m < 5 → hi 10 (256 * m + s) = oO (cf_mv w h false s m)) ∧ (cf_vs w h true s → ∀ m, m < 5 → hi 10 (1280 + (256 * m + s)) = oO (cf_mv w h true s m))
/-- not yet found -/
def cf_en0 (s : Nat) (hi : Nat → Nat → Int32) (hl : Nat → Nat → Int64) : Prop := (∀ m, m < 10 → hi 10 (256 * m + s) = -1) ∧ hl 11 s = 0 ∧ hl 11 (256 + s) = 0 ∧ hl 12 s = 0 ∧ hl 12 (256 + s) = 0
def cf_sme (s : Nat) (hi hi2 : Nat → Nat → Int32) (hl hl2 : Nat → Nat → Int64) : Prop := (∀ b, b % 256 = s → hi2 10 b = hi 10 b) ∧ (∀ b, b % 256 = s → hl2 11 b = hl 11 b ∧ hl2 12 b = hl 12 b)
theorem cf_ent_eq {w h s : Nat} {hi hi2 : Nat → Nat → Int32} {hl hl2 : Nat → Nat → Int64} (hs : s < 256) (E : cf_sme s hi hi2 hl hl2) (X : cf_ent w h s hi hl) : cf_ent w h s hi2 hl2 := by
  obtain ⟨e1, e2⟩ := E
  obtain ⟨x1, x2, x3, x4, x5, x6⟩ := X
  refine ⟨(e2 s (by omega)).1.trans x1, (e2 (256 + s) (by omega)).1.trans x2, (e2 s (by omega)).2.trans x3, (e2 (256 + s) (by omega)).2.trans x4, fun m hm => (e1 _ (by omega)).trans (x5 m hm), fun vs m hm => (e1 _ (by omega)).trans (x6 vs m hm)⟩
theorem cf_en0_eq {s : Nat} {hi hi2 : Nat → Nat → Int32} {hl hl2 : Nat → Nat → Int64} (hs : s < 256) (E : cf_sme s hi hi2 hl hl2) (X : cf_en0 s hi hl) : cf_en0 s hi2 hl2 := by
  obtain ⟨e1, e2⟩ := E
  obtain ⟨x1, x2, x3, x4, x5⟩ := X
  exact ⟨fun m hm => (e1 _ (by omega)).trans (x1 m hm), (e2 s (by omega)).1.trans x2, (e2 (256 + s) (by omega)).1.trans x3, (e2 s (by omega)).2.trans x4, (e2 (256 + s) (by omega)).2.trans x5⟩
def cf_FI (w h n : Nat) (hi : Nat → Nat → Int32) (hl : Nat → Nat → Int64) : Prop := ∀ s, s < 256 → (s < n → s % 64 < w * h → cf_ent w h s hi hl) ∧ (n ≤ s → cf_en0 s hi hl)
/-- what the Floor's constructor leaves -/
def cf_FL (w h : Nat) (hi hi2 : Nat → Nat → Int32) (hl2 : Nat → Nat → Int64) : Prop := (∀ a b, a < 7 → hi2 a b = hi a b) ∧ cf_K1 w h hi2 ∧ cf_K2 w h hi2 hl2 ∧ cf_K3 w h hl2 ∧ (∀ q, hi2 8 q = 0) ∧ (∀ y, hi2 9 y = 0) ∧ hl2 7 10 = 0
section RXC
variable {L : Nat} {v : Nat → Nat → Option Nat} {Q : Option Value → rx_H → Prop}
theorem c6l {w h : Nat} {hi0 : Nat → Nat → Int32} {hl0 : Nat → Nat → Int64} (K1 : cf_K1 w h hi0) (K3 : cf_K3 w h hl0) {a b : Int64}
    (k : ∀ hi2 hl2, (∀ a b, ¬ a = 10 → hi2 a b = hi0 a b) → (∀ a b, ¬ (a = 11 ∨ a = 12) → hl2 a b = hl0 a b) → cf_FI w h 256 hi2 hl2 → Q none (rx_hF L hi2 hl2 v)) :
    ∀ e s, s + e = 256 → ∀ hi hl, (∀ a b, ¬ a = 10 → hi a b = hi0 a b) → (∀ a b, ¬ (a = 11 ∨ a = 12) → hl a b = hl0 a b) → cf_FI w h s hi hl → rx_aw 6 166 [.ref 7, .int (nI w), .int (nI h), .long a, rx_no, .long b, rx_no, .long (hl0 7 2), rx_no, .int (nI s)] [] (rx_hF L hi hl v) Q := by
  have hwh := cf_wh K1
  intro e
  induction e with
  | zero =>
    intro s hs hi hl F G I
    have : s = 256 := by omega
    subst this
    refine w6d ⟨fun _ => k hi hl F G I, fun c => absurd ?_ c⟩
    rw [show (256 : Int32) = nI 256 from rfl, cf_nle (by omega) (by omega)]; omega
  | succ e ih =>
    intro s hs hi hl F G I
    have K1' : cf_K1 w h hi := cf_K1_u K1 (fun b => F 7 b (by omega))
    have K3' : cf_K3 w h hl := cf_K3_u K3 (fun b => G 7 b (by omega))
    have hq := (K3 (s % 64) (by omega)).1
    refine w6d ⟨fun c => ?_, fun _ => c8F (c9F (by omega) ⟨fun c => ?_, fun c => ?_⟩)⟩
    · rw [show (256 : Int32) = nI 256 from rfl, cf_nle (by omega) (by omega)] at c; omega
    · rw [cf_cmp0, cf_bt_and (by omega), hq] at c
      have hn : ¬ s % 64 < w * h := of_decide_eq_false c
      rw [show nI s + 1 = nI (s + 1) from nI_add s 1]
      refine ih (s + 1) (by omega) hi hl F G (fun s' hs' => ⟨fun h1 h2 => ?_, fun h1 => (I s' hs').2 (by omega)⟩)
      by_cases es : s' = s
      · subst es; exact absurd h2 hn
      · exact (I s' hs').1 (by omega) h2
    · rw [cf_cmp0, cf_bt_and (by omega), hq] at c
      have hn : s % 64 < w * h := by
        by_cases z : s % 64 < w * h
        · exact z
        · exact absurd (decide_eq_false z) c
      obtain ⟨z1, z2, z3, z4, z5⟩ := (I s (by omega)).2 (Nat.le_refl s)
      refine c10F K1' K3' (by omega) hn (fun hi3 F3 E3 => ?_)
      refine c15F (cf_K1_u K1' (fun b => F3 7 b (by omega))) (cf_K3_u K3' (fun b => cf_ru_ne (by omega))) (by omega) hn (fun m m3 m5 => ?_) ?_ ?_ ?_ (fun hi4 hl4 F4 G4 X1 X2 X3 X4 => ?_)
      · rw [F3 _ _ (by omega), show 1280 + (256 * m + s) = 256 * (m + 5) + s by omega]; exact z1 (m + 5) (by omega)
      · rw [cf_ru_ne (by omega)]; exact z3
      · rw [cf_ru_ne (by omega)]; exact z4
      · rw [cf_ru_ne (by omega)]; exact z5
      have sm : ∀ s', s' < 256 → ¬ s' = s → cf_sme s' hi hi4 hl hl4 := fun s' hs' ne => by
        refine ⟨fun b hb => ?_, fun b hb => ⟨?_, ?_⟩⟩
        · rw [F4 _ _ (by omega), F3 _ _ (by omega)]
        · rw [G4 _ _ (by omega), cf_ru_ne (by omega)]
        · rw [G4 _ _ (by omega), cf_ru_ne (by omega)]
      rw [show nI s + 1 = nI (s + 1) from nI_add s 1]
      refine ih (s + 1) (by omega) hi4 hl4 (fun a b q => ?_) (fun a b q => ?_) (fun s' hs' => ⟨fun h1 h2 => ?_, fun h1 => cf_en0_eq hs' (sm s' hs' (by omega)) ((I s' hs').2 (by omega))⟩)
      · rw [F4 _ _ (by omega), F3 _ _ (by omega)]; exact F a b q
      · rw [G4 _ _ (by omega), cf_ru_ne (by omega)]; exact G a b q
      · by_cases es : s' = s
        · subst es
          refine ⟨?_, X1, X2, X3, fun m hm => ?_, X4⟩
          · rw [G4 _ _ (by omega), cf_ru_eq]; rfl
          · rw [F4 _ _ (by omega)]; exact E3 m hm
        · exact cf_ent_eq hs' (sm s' hs' es) ((I s' hs').1 (by omega) h2)
theorem c6 {w h : Nat} {hi : Nat → Nat → Int32} {hl : Nat → Nat → Int64} {r : Nat → Nat → Option Nat} (hw : 2 ≤ w ∧ w ≤ 8) (hh : 2 ≤ h ∧ h ≤ 8)
    (k : ∀ hi2 hl2, cf_FL w h hi hi2 hl2 → Q none (rx_tk L 12, hi2, hl2, rx_rF r)) : rx_me 6 [.ref 7, .int (nI w), .int (nI h)] (rx_tk L 7, hi, hl, r) Q := by
  refine w6a (w6b hw.2 hh.2 (w6c (c7F (fun hi1 F1 W1 => ?_))))
  have f0 : ∀ a b, ¬ (8 ≤ a ∧ a ≤ 12) → rx_r5 hi 0 a b = hi a b := fun a b q => by
    unfold rx_r5
    rw [rx_row_ne (by omega), rx_row_ne (by omega), rx_row_ne (by omega), rx_row_ne (by omega), rx_row_ne (by omega)]
  have K1 : cf_K1 w h hi1 := by
    refine ⟨hw.1, hw.2, hh.1, hh.2, ?_, ?_⟩
    · rw [F1 _ _ (by omega), cf_ru_ne (by omega), cf_ru_eq]
    · rw [F1 _ _ (by omega), cf_ru_eq]
  have K3 : cf_K3 w h (rx_u (rx_u (rx_u (rx_u (rx_r5 hl 0) 7 10 0) 7 2 (cf_me w h)) 7 3 (cf_me w h &&& (cf_mf w h ^^^ -1))) 7 4 (cf_me w h &&& (cf_ml w h ^^^ -1))) := by
    refine cf_K3_new hw.1 hw.2 hh.2 ?_ ?_ ?_
    · rw [cf_ru_ne (by omega), cf_ru_ne (by omega), cf_ru_eq]
    · rw [cf_ru_ne (by omega), cf_ru_eq]
    · rw [cf_ru_eq]
  have fin : ∀ hi2 hl2, (∀ a b, ¬ a = 10 → hi2 a b = hi1 a b) → (∀ a b, ¬ (a = 11 ∨ a = 12) → hl2 a b = (rx_u (rx_u (rx_u (rx_u (rx_r5 hl 0) 7 10 0) 7 2 (cf_me w h)) 7 3 (cf_me w h &&& (cf_mf w h ^^^ -1))) 7 4 (cf_me w h &&& (cf_ml w h ^^^ -1))) a b) → cf_FI w h 256 hi2 hl2 → Q none (rx_hF L hi2 hl2 (rx_rF r)) := by
    intro hi2 hl2 F G I
    have e : rx_hF L hi2 hl2 (rx_rF r) = (rx_tk L 12, hi2, hl2, rx_rF r) := by
      unfold rx_hF
      rw [rx_hr7_F]
      rfl
    rw [e]
    refine k hi2 hl2 ⟨fun a b q => ?_, cf_K1_u K1 (fun b => F 7 b (by omega)), fun s hs hq => (I s hs).1 (by omega) hq, cf_K3_u K3 (fun b => G 7 b (by omega)), fun q => ?_, fun y => ?_, ?_⟩
    · rw [F _ _ (by omega), F1 _ _ (by omega), cf_ru_ne (by omega), cf_ru_ne (by omega)]
      exact f0 a b (by omega)
    · rw [F _ _ (by omega), F1 _ _ (by omega), cf_ru_ne (by omega), cf_ru_ne (by omega)]; rfl
    · rw [F _ _ (by omega), F1 _ _ (by omega), cf_ru_ne (by omega), cf_ru_ne (by omega)]; rfl
    · rw [G _ _ (by omega), cf_ru_ne (by omega), cf_ru_ne (by omega), cf_ru_ne (by omega), cf_ru_eq]
  have e : (rx_u (rx_u (rx_u (rx_u (rx_r5 hl 0) 7 10 0) 7 2 (cf_me w h)) 7 3 (cf_me w h &&& (cf_mf w h ^^^ -1))) 7 4 (cf_me w h &&& (cf_ml w h ^^^ -1))) 7 2 = cf_me w h := by
    rw [cf_ru_ne (by omega), cf_ru_ne (by omega), cf_ru_eq]
  have lp := c6l (L := L) (v := rx_rF r) (Q := Q) K1 K3 (a := cf_mf w h) (b := cf_ml w h) fin 256 0 rfl hi1 _ (fun _ _ _ => rfl) (fun _ _ _ => rfl) (fun s hs => ⟨fun h1 => absurd h1 (by omega), fun _ => ⟨fun m hm => W1 _ (by omega), rfl, rfl, rfl, rfl⟩⟩)
  rw [e] at lp
  exact lp
end RXC
