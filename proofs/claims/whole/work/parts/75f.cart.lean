/-! cart of both. -/
theorem cf_vs_std {w h k s : Nat} (hw : 2 ≤ w) (hwh : w * h ≤ 64) (hs : s % 64 < w * h) : cf_vs w h (cf_two k) s ↔ ¬ cf_std w h (cf_two k) s = 0 := by
  unfold cf_vs
  cases e : cf_two k with
  | false =>
    constructor
    · intro _ z
      have := cf_std1 (w := w) (h := h) (s := s) (p := s % 64)
      rw [z, cf_h0] at this
      exact absurd (this.mpr rfl) (by decide)
    · intro _; exact ⟨hs, fun q => by cases q⟩
  | true =>
    constructor
    · rintro ⟨_, h2⟩ z
      have h2 := h2 rfl
      cases e2 : cf_step w h (s % 64) (cf_opp (s / 64 % 4)) with
      | none => exact h2 e2
      | some b =>
        have := cf_std2 (p := s % 64) hwh hs e2
        rw [z, cf_h0] at this
        exact absurd (this.mpr (Or.inl rfl)) (by decide)
    · intro z
      refine ⟨hs, fun _ e2 => z ?_⟩
      unfold cf_std
      rw [e2]; rfl
theorem cf_vs_pop {w h k s : Nat} (hw : 2 ≤ w) (hwh : w * h ≤ 64) (hs : s % 64 < w * h) (h2 : cf_two k = true) : cf_vs w h (cf_two k) s ↔ 1 < cf_pop (cf_std w h (cf_two k) s) := by
  rw [cf_vs_std hw hwh hs, h2, cf_pop_two]
  constructor
  · intro z
    cases e2 : cf_step w h (s % 64) (cf_opp (s / 64 % 4)) with
    | none =>
      apply absurd _ z
      unfold cf_std
      rw [e2]; rfl
    | some b =>
      have hb := cf_step_64 hwh hs e2
      have hne : ¬ b = s % 64 := by
        intro q
        subst q
        have hd : cf_opp (s / 64 % 4) < 4 := by unfold cf_opp; omega
        obtain ⟨x0, x1, x2, x3⟩ := cf_xy hw hs e2
        have : cf_opp (s / 64 % 4) = 0 ∨ cf_opp (s / 64 % 4) = 1 ∨ cf_opp (s / 64 % 4) = 2 ∨ cf_opp (s / 64 % 4) = 3 := by omega
        rcases this with q | q | q | q
        · have := x0 q; omega
        · have := x1 q; omega
        · have := x2 q; omega
        · have := x3 (by omega) (by omega) (by omega); omega
      have m1 := (cf_std2 (p := s % 64) hwh hs e2).mpr (Or.inl rfl)
      have m2 := (cf_std2 (p := b) hwh hs e2).mpr (Or.inr rfl)
      rcases Nat.lt_or_ge b (s % 64) with q | q
      · exact ⟨b, s % 64, q, by omega, m2, m1⟩
      · exact ⟨s % 64, b, by omega, hb, m1, m2⟩
  · rintro ⟨p, q, h1, h2, h3, h4⟩ z
    rw [z, cf_h0] at h3; cases h3
/-- a cart more -/
def cf_ac (S : cf_S) (k s : Nat) : cf_S := fun a b => if a = 0 ∧ b = 2 then S 0 2 + 1 else if b = S 0 2 ∧ a = 3 then k else if b = S 0 2 ∧ a = 9 then s else if b = S 0 2 ∧ 4 ≤ a ∧ a ≤ 8 then 0 else S a b
theorem cf_ac_r {S : cf_S} {k s a b : Nat} (h0 : ¬ (a = 0 ∧ b = 2)) (h1 : ¬ (b = S 0 2 ∧ 3 ≤ a ∧ a ≤ 9)) : cf_ac S k s a b = S a b := by
  unfold cf_ac
  rw [if_neg h0, if_neg (by omega), if_neg (by omega), if_neg (by omega)]
theorem cf_ac_2 {S : cf_S} {k s : Nat} : cf_ac S k s 0 2 = S 0 2 + 1 := by unfold cf_ac; rw [if_pos ⟨rfl, rfl⟩]
theorem cf_ac_k {S : cf_S} {k s : Nat} : cf_ac S k s 3 (S 0 2) = k := by unfold cf_ac; rw [if_neg (by omega), if_pos ⟨rfl, rfl⟩]
theorem cf_ac_s {S : cf_S} {k s : Nat} : cf_ac S k s 9 (S 0 2) = s := by unfold cf_ac; rw [if_neg (by omega), if_neg (by omega), if_pos ⟨rfl, rfl⟩]
theorem cf_ac_0 {S : cf_S} {k s a : Nat} (h : 4 ≤ a) (h2 : a ≤ 8) : cf_ac S k s a (S 0 2) = 0 := by unfold cf_ac; rw [if_neg (by omega), if_neg (by omega), if_neg (by omega), if_pos ⟨rfl, h, h2⟩]
def cf_caz (S : cf_S) (n : Nat) (a0 a3 : Int32) : Prop := n = 0 ∨ ¬ (0 ≤ a0.toInt ∧ a0.toInt ≤ 3) ∨ ¬ (0 ≤ a3.toInt ∧ a3.toInt ≤ 3) ∨ 6 ≤ S 0 2 ∨ 0 < cf_mx (S 4) (S 0 2)
  ∨ ¬ cf_vs (S 0 0) (S 0 1) (cf_two a0.toInt.toNat) (n - 1 + 64 * a3.toInt.toNat)
  ∨ ¬ (cf_std (S 0 0) (S 0 1) (cf_two a0.toInt.toNat) (n - 1 + 64 * a3.toInt.toNat) &&& (cf_bar S ||| cf_un (cf_sd S 0) (S 0 2))) = 0
  ∨ (¬ a0.toInt.toNat = 1 ∧ ¬ (cf_std (S 0 0) (S 0 1) (cf_two a0.toInt.toNat) (n - 1 + 64 * a3.toInt.toNat) &&& cf_sq S 0 0) = 0)
theorem cf_V_ac {S : cf_S} (V : cf_V S) {k s : Nat} (hk : k < 4) (hs : s < 256) (hv : cf_vs (S 0 0) (S 0 1) (cf_two k) s) (h6 : S 0 2 < 6) : cf_V (cf_ac S k s) := by
  have r : ∀ a b, ¬ (a = 0 ∧ b = 2) → ¬ (b = S 0 2 ∧ 3 ≤ a ∧ a ≤ 9) → cf_ac S k s a b = S a b := fun a b h h2 => cf_ac_r h h2
  unfold cf_V
  rw [r 0 0 (by omega) (by omega), r 0 1 (by omega) (by omega), r 0 3 (by omega) (by omega), cf_ac_2]
  refine ⟨V.1, V.2.1, by omega, V.2.2.2.1, fun p => ?_, fun y => ?_, fun c hc => ?_, fun s hs => ?_⟩
  · rw [r _ _ (by omega) (by omega)]; exact V.2.2.2.2.1 p
  · rw [r _ _ (by omega) (by omega)]; exact V.2.2.2.2.2.1 y
  · by_cases e : c = S 0 2
    · subst e
      rw [cf_ac_k, cf_ac_s, cf_ac_0 (by omega) (by omega), cf_ac_0 (by omega) (by omega), cf_ac_0 (by omega) (by omega), cf_ac_0 (by omega) (by omega), cf_ac_0 (by omega) (by omega)]
      exact ⟨hk, hv, by omega, by omega, by omega, by omega, by omega, by omega, fun t ht => by omega⟩
    · rw [r 3 _ (by omega) (by omega), r 9 _ (by omega) (by omega), r 4 _ (by omega) (by omega), r 5 _ (by omega) (by omega), r 6 _ (by omega) (by omega), r 7 _ (by omega) (by omega), r 8 _ (by omega) (by omega)]
      obtain ⟨h1, h2, h3, h4, h5, h6, h7, h8, h9⟩ := V.2.2.2.2.2.2.1 c (by omega)
      exact ⟨h1, h2, h3, h4, h5, h6, h7, h8, fun u hu => by rw [r _ _ (by omega) (by omega)]; exact h9 u hu⟩
  · rw [r _ _ (by omega) (by omega)]; exact V.2.2.2.2.2.2.2 s hs
theorem cf_H0_ac {S : cf_S} (H : cf_H0 S) {k s : Nat} (hs : s < 256) : cf_H0 (cf_ac S k s) := by
  intro c x hc hx e
  rw [cf_ac_2] at hc
  rw [cf_ac_r (by omega) (by omega)] at hx
  by_cases q : c = S 0 2
  · subst q; rw [cf_ac_s] at e; omega
  · rw [cf_ac_r (by omega) (by omega)] at e
    rw [cf_ac_r (by omega) (by omega), cf_ac_r (by omega) (by omega)]
    exact H c x (by omega) hx e
theorem cf_Ir_ac {S : cf_S} {ls k s : Nat} (I : cf_Ir ls S) (hk : k < 4) (hs : s < 256) (hv : cf_vs (S 0 0) (S 0 1) (cf_two k) s) (h6 : S 0 2 < 6) (hm : cf_mx (S 4) (S 0 2) = 0) (d1 : (cf_std (S 0 0) (S 0 1) (cf_two k) s &&& (cf_bar S ||| cf_un (cf_sd S 0) (S 0 2))) = 0) (d2 : k = 1 ∨ (cf_std (S 0 0) (S 0 1) (cf_two k) s &&& cf_sq S 0 0) = 0) : cf_Ir ls (cf_ac S k s) := by
  obtain ⟨V, G, E1, E2, Bd, hls, E3, E4⟩ := id I
  have h4 : ∀ c, c < S 0 2 → S 4 c = 0 := fun c hc => cf_mx0 hm hc
  have r : ∀ a b, ¬ (a = 0 ∧ b = 2) → ¬ (b = S 0 2 ∧ 3 ≤ a ∧ a ≤ 9) → cf_ac S k s a b = S a b := fun a b h h2 => cf_ac_r h h2
  have eb : cf_bar (cf_ac S k s) = cf_bar S := cf_bar_eq (r 0 0 (by omega) (by omega)) (r 0 1 (by omega) (by omega)) (funext fun b => r 1 b (by omega) (by omega)) (funext fun b => r 2 b (by omega) (by omega))
  have es : ∀ c, ¬ c = S 0 2 → cf_sd (cf_ac S k s) 0 c = cf_sd S 0 c := by
    intro c hc
    show cf_std _ _ _ (cf_ac S k s 9 c) = cf_std _ _ _ (S 9 c)
    rw [r 0 0 (by omega) (by omega), r 0 1 (by omega) (by omega), r 3 c (by omega) (by omega), r 9 c (by omega) (by omega)]
  have en : cf_sd (cf_ac S k s) 0 (S 0 2) = cf_std (S 0 0) (S 0 1) (cf_two k) s := by
    show cf_std _ _ _ (cf_ac S k s 9 (S 0 2)) = _
    rw [r 0 0 (by omega) (by omega), r 0 1 (by omega) (by omega), cf_ac_k, cf_ac_s]
  have eq : ∀ x, cf_sq (cf_ac S k s) 0 x = cf_sq S 0 x := by
    intro x
    unfold cf_sq
    rw [r 0 3 (by omega) (by omega)]
    refine cf_un_eq2 (fun i _ => ?_)
    show (if i + 1 = x then 0 else cf_bt (cf_ac S k s 12 i)) = if i + 1 = x then 0 else cf_bt (S 12 i)
    rw [r 12 i (by omega) (by omega)]
  have dn : ∀ o, o < S 0 2 → (cf_std (S 0 0) (S 0 1) (cf_two k) s &&& cf_sd S 0 o) = 0 := by
    intro o ho
    rw [cf_dj]
    intro p hp z
    refine cf_dj.mp d1 p hp ?_
    rw [cf_hor, cf_has_un, Bool.or_eq_true]
    exact Or.inr (cf_any_true ho z)
  refine cf_Ir_stat (cf_V_ac V hk hs hv h6) (fun x y hx hy => ?_) (cf_H0_ac G.2.1 hs) (fun c hc => ?_) (fun c c' hc hc' hne => ?_) (fun c hc => ?_) (fun c hc => ?_) hls (fun c hc => ?_) (fun c hc => ?_)
  · rw [r _ _ (by omega) (by omega)] at hx hy
    rw [r _ _ (by omega) (by omega), r _ _ (by omega) (by omega)]
    exact G.1 x y hx hy
  all_goals rw [cf_ac_2] at hc
  · unfold cf_own
    by_cases q : c = S 0 2
    · subst q
      rw [cf_ac_s, cf_ac_0 (by omega) (by omega), if_pos (by omega)]
      exact ⟨fun z => absurd rfl z, fun z => absurd (by omega) z⟩
    · rw [r 9 c (by omega) (by omega), r 6 c (by omega) (by omega), r 3 c (by omega) (by omega)]
      exact G.2.2.1 c (by omega)
  · rw [cf_ac_2] at hc'
    unfold cf_own
    by_cases q : c = S 0 2
    · subst q
      rw [cf_ac_s, cf_ac_0 (by omega) (by omega), if_pos (by omega)]
      intro z; exact absurd rfl z
    · by_cases q' : c' = S 0 2
      · subst q'
        rw [cf_ac_s, cf_ac_0 (by omega) (by omega), if_pos (c := s / 256 = 0) (by omega)]
        intro z z2; exact z z2
      · rw [r 9 c (by omega) (by omega), r 6 c (by omega) (by omega), r 9 c' (by omega) (by omega), r 6 c' (by omega) (by omega)]
        exact G.2.2.2.1 c c' (by omega) (by omega) hne
  · by_cases q : c = S 0 2
    · subst q; exact cf_ac_0 (by omega) (by omega)
    · rw [r 4 c (by omega) (by omega)]; exact h4 c (by omega)
  · unfold cf_ok0
    by_cases q : c = S 0 2
    · subst q
      rw [en, eb, cf_ac_k, cf_ac_s, show s / 256 = 0 by omega, eq, cf_ac_2]
      refine ⟨?_, ?_, fun o ho hne => by rw [es o hne]; exact dn o (by omega)⟩
      · rw [cf_dj]
        intro p hp z
        refine cf_dj.mp d1 p hp ?_
        rw [cf_hor, z]; rfl
      · rcases d2 with z | z
        · exact Or.inl ⟨z, rfl⟩
        · exact Or.inr z
    · obtain ⟨o1, o2, o3⟩ := cf_Ir_ok0 I h4 (c := c) (by omega)
      rw [es c q, eb, r 3 c (by omega) (by omega), r 9 c (by omega) (by omega), eq, cf_ac_2]
      refine ⟨o1, o2, fun o ho hne => ?_⟩
      by_cases w : o = S 0 2
      · subst w
        rw [en, Int64.and_comm]; exact dn c (by omega)
      · rw [es o w]; exact o3 o (by omega) hne
  · by_cases q : c = S 0 2
    · subst q; intro _; exact ⟨cf_ac_0 (by omega) (by omega), cf_ac_0 (by omega) (by omega)⟩
    · rw [r 3 c (by omega) (by omega), r 5 c (by omega) (by omega), r 8 c (by omega) (by omega)]; exact E3 c (by omega)
  · by_cases q : c = S 0 2
    · subst q; intro z; exact absurd (cf_ac_0 (by omega) (by omega)) z
    · rw [r 6 c (by omega) (by omega), r 5 c (by omega) (by omega)]; exact E4 c (by omega)
