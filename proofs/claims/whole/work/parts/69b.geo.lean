/-! Geometry: coordinates, lines, what a cart stands on; that a cart of two squares never changes places. -/
theorem cf_xy {w h q d p : Nat} (hw : 2 ≤ w) (hq : q < w * h) (e : cf_step w h q d = some p) : (d = 0 → p % w = q % w ∧ p / w + 1 = q / w) ∧ (d = 1 → p % w = q % w + 1 ∧ p / w = q / w) ∧ (d = 2 → p % w = q % w ∧ p / w = q / w + 1) ∧ (¬ d = 0 → ¬ d = 1 → ¬ d = 2 → p % w + 1 = q % w ∧ p / w = q / w) := by
  have hm := Nat.mod_lt q (show 0 < w by omega)
  have hdm := Nat.div_add_mod q w
  have key : ∀ a b, b < w → (w * a + b) % w = b ∧ (w * a + b) / w = a := by
    intro a b hb
    exact ⟨by rw [Nat.mul_add_mod, Nat.mod_eq_of_lt hb], by rw [Nat.mul_add_div (by omega), Nat.div_eq_of_lt hb, Nat.add_zero]⟩
  unfold cf_step at e
  by_cases h0 : d = 0
  · rw [if_pos h0] at e
    split at e <;> cases e
    rename_i g
    refine ⟨fun _ => ?_, fun q => by omega, fun q => by omega, fun q => absurd h0 q⟩
    obtain ⟨a, ha⟩ : ∃ a, q / w = a + 1 := by
      have := (Nat.le_div_iff_mul_le (show 0 < w by omega)).mpr (show 1 * w ≤ q by omega)
      exact ⟨q / w - 1, by omega⟩
    rw [ha, Nat.mul_add, Nat.mul_one] at hdm
    have := key a (q % w) hm
    rw [show q - w = w * a + q % w by omega, ha]
    exact ⟨this.1, by omega⟩
  · rw [if_neg h0] at e
    by_cases h1 : d = 1
    · rw [if_pos h1] at e
      split at e <;> cases e
      rename_i g
      refine ⟨fun q => absurd q h0, fun _ => ?_, fun q => by omega, fun _ q => absurd h1 q⟩
      have := key (q / w) (q % w + 1) g
      rw [show w * (q / w) + (q % w + 1) = q + 1 by omega] at this
      exact this
    · rw [if_neg h1] at e
      by_cases h2 : d = 2
      · rw [if_pos h2] at e
        split at e <;> cases e
        refine ⟨fun q => absurd q h0, fun q => absurd q h1, fun _ => ?_, fun _ _ q => absurd h2 q⟩
        have := key (q / w + 1) (q % w) hm
        rw [Nat.mul_add, Nat.mul_one, show w * (q / w) + w + q % w = q + w by omega] at this
        exact this
      · rw [if_neg h2] at e
        split at e <;> cases e
        rename_i g
        refine ⟨fun q => absurd q h0, fun q => absurd q h1, fun q => absurd q h2, fun _ _ _ => ?_⟩
        have := key (q / w) (q % w - 1) (by omega)
        rw [show w * (q / w) + (q % w - 1) = q - 1 by omega] at this
        exact ⟨by omega, this.2⟩
theorem cf_xy_eq {w p q : Nat} (h1 : p % w = q % w) (h2 : p / w = q / w) : p = q := by
  rw [← Nat.div_add_mod p w, ← Nat.div_add_mod q w, h1, h2]
theorem cf_dd4 {d : Nat} (h : d < 4) : d = 0 ∨ d = 1 ∨ d = 2 ∨ d = 3 := by omega
/-- the ends of a line of three aren't neighbours -/
theorem cf_line1 {w h x y z d d' : Nat} (hw : 2 ≤ w) (hy : y < w * h) (hd : d < 4) (hd' : d' < 4) (e1 : cf_step w h y d = some x) (e2 : cf_step w h y (cf_opp d) = some z) : ¬ cf_step w h z d' = some x := by
  intro e3
  have hz := cf_step_lt hy e2
  have a := cf_xy hw hy e1
  have b := cf_xy hw hy e2
  have c := cf_xy hw hz e3
  generalize x % w = x1 at *
  generalize x / w = x2 at *
  generalize y % w = y1 at *
  generalize y / w = y2 at *
  generalize z % w = z1 at *
  generalize z / w = z2 at *
  clear e1 e2 e3 hz hy
  rcases cf_dd4 hd with rfl | rfl | rfl | rfl <;> rcases cf_dd4 hd' with rfl | rfl | rfl | rfl <;> simp [cf_opp] at a b c <;> omega
/-- a line of three has one middle -/
theorem cf_line2 {w h x y y' z d d' : Nat} (hw : 2 ≤ w) (hy : y < w * h) (hy' : y' < w * h) (hd : d < 4) (hd' : d' < 4) (e1 : cf_step w h y d = some x) (e2 : cf_step w h y (cf_opp d) = some z) (e3 : cf_step w h y' d' = some x) (e4 : cf_step w h y' (cf_opp d') = some z) : y = y' := by
  have a := cf_xy hw hy e1
  have b := cf_xy hw hy e2
  have c := cf_xy hw hy' e3
  have f := cf_xy hw hy' e4
  have g : y % w = y' % w ∧ y / w = y' / w := by
    generalize x % w = x1 at *
    generalize x / w = x2 at *
    generalize y % w = y1 at *
    generalize y / w = y2 at *
    generalize z % w = z1 at *
    generalize z / w = z2 at *
    generalize y' % w = y3 at *
    generalize y' / w = y4 at *
    clear e1 e2 e3 e4 hy hy'
    rcases cf_dd4 hd with rfl | rfl | rfl | rfl <;> rcases cf_dd4 hd' with rfl | rfl | rfl | rfl <;> simp [cf_opp] at a b c f <;> omega
  exact cf_xy_eq g.1 g.2
theorem cf_std1 {w h s p : Nat} : cf_has (cf_std w h false s) p = true ↔ p = s % 64 := by
  show cf_has (cf_bt (s % 64)) p = true ↔ _
  rw [cf_hbt, Bool.and_eq_true, decide_eq_true_iff, decide_eq_true_iff]
  constructor
  · intro h; exact h.2.symm
  · intro h; exact ⟨by omega, h.symm⟩
theorem cf_std2 {w h s b p : Nat} (hwh : w * h ≤ 64) (hs : s % 64 < w * h) (e : cf_step w h (s % 64) (cf_opp (s / 64 % 4)) = some b) : cf_has (cf_std w h true s) p = true ↔ p = s % 64 ∨ p = b := by
  have hb := cf_step_64 hwh hs e
  unfold cf_std
  rw [cond_true, e]
  dsimp only
  rw [cf_hor, Bool.or_eq_true, cf_hbt, cf_hbt, Bool.and_eq_true, Bool.and_eq_true, decide_eq_true_iff, decide_eq_true_iff, decide_eq_true_iff, decide_eq_true_iff]
  constructor
  · rintro (h | h)
    · exact Or.inl h.2.symm
    · exact Or.inr h.2.symm
  · rintro (h | h)
    · exact Or.inl ⟨by omega, h.symm⟩
    · exact Or.inr ⟨hb, h.symm⟩
theorem cf_four2 {w h s m b n c p : Nat} (hwh : w * h ≤ 64) (hs : s % 64 < w * h) (e : cf_tn w h s (cf_to s m) = some (b, n, c)) : cf_has (cf_four w h s m) p = true ↔ p = s % 64 ∨ p = b ∨ p = n ∨ p = c := by
  obtain ⟨e1, e2, e3⟩ := cf_tn_some e
  have hb := cf_step_64 hwh hs e1
  have hn := cf_step_64 hwh (cf_step_lt hs e1) e2
  have hc := cf_step_64 hwh hs e3
  unfold cf_four
  rw [e]
  dsimp only
  simp only [cf_hor, Bool.or_eq_true, cf_hbt, Bool.and_eq_true, decide_eq_true_iff]
  constructor
  · rintro (((h | h) | h) | h)
    · exact Or.inl h.2.symm
    · exact Or.inr (Or.inl h.2.symm)
    · exact Or.inr (Or.inr (Or.inl h.2.symm))
    · exact Or.inr (Or.inr (Or.inr h.2.symm))
  · rintro (h | h | h | h)
    · exact Or.inl (Or.inl (Or.inl ⟨by omega, h.symm⟩))
    · exact Or.inl (Or.inl (Or.inr ⟨hb, h.symm⟩))
    · exact Or.inl (Or.inr ⟨hn, h.symm⟩)
    · exact Or.inr ⟨hc, h.symm⟩
/-- two sets without a common square -/
theorem cf_dj {x y : Int64} : (x &&& y) = 0 ↔ ∀ q, cf_has x q = true → ¬ cf_has y q = true := by
  rw [cf_he0]
  constructor
  · intro h q h1 h2
    by_cases hq : q < 64
    · have := h q hq
      rw [cf_hand, h1, h2] at this; cases this
    · rw [cf_hbig (by omega)] at h1; cases h1
  · intro h q _
    rw [cf_hand]
    cases e : cf_has x q with
    | false => rfl
    | true =>
      cases e2 : cf_has y q with
      | false => rfl
      | true => exact absurd e2 (h q e)
theorem cf_dj_or {x y z : Int64} : ((x ||| y) &&& z) = 0 ↔ (x &&& z) = 0 ∧ (y &&& z) = 0 := by
  rw [cf_dj, cf_dj, cf_dj]
  constructor
  · intro h
    exact ⟨fun q h1 => h q (by rw [cf_hor, h1]; rfl), fun q h1 => h q (by rw [cf_hor, h1, Bool.or_true])⟩
  · rintro ⟨h1, h2⟩ q hq
    rw [cf_hor, Bool.or_eq_true] at hq
    rcases hq with hq | hq
    · exact h1 q hq
    · exact h2 q hq
theorem cf_swap_t {a b c d : Int64} (h : cf_swap a b c d = true) : (∃ x, cf_has a x = true ∧ cf_has d x = true) ∧ (∃ z, cf_has b z = true ∧ cf_has c z = true) := by
  unfold cf_swap at h
  rw [Bool.and_eq_true, Bool.and_eq_true, decide_eq_true_iff, decide_eq_true_iff, cf_hne, cf_hne] at h
  obtain ⟨⟨⟨x, _, hx⟩, ⟨z, _, hz⟩⟩, _⟩ := h
  rw [cf_hand, Bool.and_eq_true] at hx hz
  exact ⟨⟨x, hx⟩, ⟨z, hz⟩⟩
/-- one square against another set -/
theorem cf_swap_1 {p q : Nat} {c d : Int64} (hp : p < 64) (hq : q < 64) : cf_swap (cf_bt p) (cf_bt q) c d = true ↔ cf_has d p = true ∧ cf_has c q = true ∧ ¬ p = q := by
  have one : ∀ (a : Nat) (x : Int64), a < 64 → cf_has x a = true → (cf_bt a &&& x) = cf_bt a := by
    intro a x ha hx
    apply cf_ext
    intro j hj
    rw [cf_hand, cf_hbt]
    by_cases e : a = j
    · subst e; rw [hx, Bool.and_true]
    · rw [decide_eq_false e, Bool.and_false, Bool.false_and]
  have nz : ∀ a, a < 64 → ¬ cf_bt a = 0 := by
    intro a ha e
    have := cf_h0 a
    rw [← e, cf_hbt, decide_eq_true ha, decide_eq_true rfl] at this; cases this
  constructor
  · intro h
    obtain ⟨⟨x, h1, h2⟩, ⟨z, h3, h4⟩⟩ := cf_swap_t h
    rw [cf_hbt, Bool.and_eq_true, decide_eq_true_iff, decide_eq_true_iff] at h1 h3
    obtain ⟨_, rfl⟩ := h1
    obtain ⟨_, rfl⟩ := h3
    refine ⟨h2, h4, fun e => ?_⟩
    subst e
    unfold cf_swap at h
    rw [one p d hp h2, one p c hp h4, decide_eq_false (show ¬ ¬ cf_bt p = cf_bt p from fun q => q rfl), Bool.false_or, Bool.and_eq_true, decide_eq_true_iff] at h
    obtain ⟨a, b, hab, hb, k1, k2⟩ := cf_low_two.mp h.2
    rw [cf_hbt, Bool.and_eq_true, decide_eq_true_iff, decide_eq_true_iff] at k1 k2
    omega
  · rintro ⟨h1, h2, h3⟩
    unfold cf_swap
    rw [one p d hp h1, one q c hq h2, decide_eq_true (nz p hp), decide_eq_true (nz q hq), decide_eq_true (show ¬ cf_bt p = cf_bt q from fun e => by
      have : cf_has (cf_bt q) p = true := by rw [← e, cf_hbt, decide_eq_true hp, decide_eq_true rfl]; rfl
      rw [cf_hbt, Bool.and_eq_true, decide_eq_true_iff, decide_eq_true_iff] at this
      exact h3 this.2.symm)]
    rfl
/-- a cart of two squares that goes straight -/
theorem cf_straight {w h s m r : Nat} (hwh : w * h ≤ 64) (hs : cf_vs w h true s) (hm : m = 1 ∨ m = 2) (e : cf_mv w h true s m = some r) : ∃ x y z d, d < 4 ∧ y < w * h ∧ cf_step w h y d = some x ∧ cf_step w h y (cf_opp d) = some z ∧ (∀ p, cf_has (cf_std w h true s) p = true ↔ p = x ∨ p = y) ∧ (∀ p, cf_has (cf_std w h true r) p = true ↔ p = y ∨ p = z) := by
  have hvr := cf_mv_vs hwh hs (by omega) e
  obtain ⟨hq, hb⟩ := hs
  have hd : s / 64 % 4 < 4 := by omega
  cases eb : cf_step w h (s % 64) (cf_opp (s / 64 % 4)) with
  | none => exact absurd eb (hb rfl)
  | some b =>
    have hbl := cf_step_lt hq eb
    have hb64 := cf_step_64 hwh hq eb
    have ib := cf_step_inv (cf_opp_lt _) hq eb
    rw [cf_opp_opp hd] at ib
    unfold cf_mv at e
    rw [if_neg (by omega), cond_true] at e
    rcases hm with rfl | rfl
    · rw [if_pos rfl] at e
      cases eq : cf_step w h (s % 64) (s / 64 % 4) with
      | none => rw [eq] at e; cases e
      | some q' =>
        rw [eq] at e
        cases e
        have hq64 := cf_step_64 hwh hq eq
        obtain ⟨g1, g2⟩ := cf_cod hq64 hd
        have iq := cf_step_inv hd hq eq
        refine ⟨b, s % 64, q', cf_opp (s / 64 % 4), cf_opp_lt _, hq, eb, by rw [cf_opp_opp hd]; exact eq, fun p => ?_, fun p => ?_⟩
        · rw [cf_std2 hwh hq eb]; exact or_comm
        · rw [cf_std2 (b := s % 64) hwh (by rw [g1]; exact cf_step_lt hq eq) (by rw [g1, g2]; exact iq), g1]; exact or_comm
    · rw [if_neg (by decide), if_pos rfl, eb] at e
      dsimp only at e
      cases eq : cf_step w h b (cf_opp (s / 64 % 4)) with
      | none => rw [eq] at e; cases e
      | some b' =>
        rw [eq] at e
        cases e
        obtain ⟨g1, g2⟩ := cf_cod hb64 hd
        refine ⟨s % 64, b, b', s / 64 % 4, hd, hbl, ib, eq, fun p => ?_, fun p => ?_⟩
        · rw [cf_std2 hwh hq eb]
        · rw [cf_std2 (b := b') hwh (by rw [g1]; exact hbl) (by rw [g1, g2]; exact eq), g1]
/-- the squares of a turn that is made: where it begins and where it ends -/
theorem cf_turn_in {w h s m r : Nat} (hwh : w * h ≤ 64) (hs : cf_vs w h true s) (hm : m = 3 ∨ m = 4) (e : cf_mv w h true s m = some r) : (∀ p, cf_has (cf_std w h true s) p = true → cf_has (cf_four w h s m) p = true) ∧ (∀ p, cf_has (cf_std w h true r) p = true → cf_has (cf_four w h s m) p = true) := by
  have hvr := cf_mv_vs hwh hs (by omega) e
  obtain ⟨hq, hb⟩ := hs
  have hd : s / 64 % 4 < 4 := by omega
  unfold cf_mv at e
  rw [if_neg (by omega), cond_true, if_neg (by omega), if_neg (by omega)] at e
  cases et : cf_tn w h s (cf_to s m) with
  | none => rw [et] at e; cases e
  | some z =>
    obtain ⟨b, n, c⟩ := z
    rw [et] at e
    cases e
    obtain ⟨e1, e2, e3⟩ := cf_tn_some et
    have hbl := cf_step_lt hq e1
    have hn64 := cf_step_64 hwh hbl e2
    obtain ⟨g1, g2⟩ := cf_cod hn64 (cf_to_lt s m)
    have ib := cf_step_inv (cf_to_lt s m) hbl e2
    refine ⟨fun p hp => ?_, fun p hp => ?_⟩
    · rw [cf_std2 hwh hq e1] at hp
      rw [cf_four2 hwh hq et]
      rcases hp with hp | hp
      · exact Or.inl hp
      · exact Or.inr (Or.inl hp)
    · rw [cf_std2 (b := b) hwh (by rw [g1]; exact cf_step_lt hbl e2) (by rw [g1, g2]; exact ib), g1] at hp
      rw [cf_four2 hwh hq et]
      rcases hp with hp | hp
      · exact Or.inr (Or.inr (Or.inl hp))
      · exact Or.inr (Or.inl hp)
/-- HOLDS and stands -/
theorem cf_sd_hd {S : cf_S} {t c p : Nat} (h : cf_has (cf_sd S t c) p = true) : cf_has (cf_hd S t c) p = true := by
  unfold cf_hd; rw [cf_hor, cf_hor, h]; rfl
theorem cf_td_hd {S : cf_S} {t c p : Nat} (h : cf_has (cf_td S t c) p = true) : cf_has (cf_hd S t c) p = true ∧ cf_has (cf_hd S (t + 1) c) p = true := by
  unfold cf_hd
  refine ⟨by rw [cf_hor, cf_hor, h, Bool.or_true, Bool.true_or], ?_⟩
  rw [if_neg (by omega), show t + 1 - 1 = t by omega, cf_hor, h, Bool.or_true]
/-- how a cart goes on from a tick to the next: it stays, or goes by a MOVE of 1 to 4 -/
theorem cf_on {S : cf_S} (t c : Nat) : cf_st S (t + 1) c % 256 = cf_st S t c % 256 ∨ ∃ r, (cf_mt S c t = 1 ∨ cf_mt S c t = 2 ∨ cf_mt S c t = 3 ∨ cf_mt S c t = 4) ∧ cf_mv (S 0 0) (S 0 1) (cf_two (S 3 c)) (cf_st S t c) (cf_mt S c t) = some r ∧ cf_st S (t + 1) c = cf_st S t c / 256 * 256 + r := by
  have e0 : cf_st S (t + 1) c = (cf_nx S (cf_w S t) t c).getD (cf_st S t c) := rfl
  rw [e0]
  have ex : cf_nx S (cf_w S t) t c = cf_aft (S 0 0) (S 0 1) (S 1) (S 3 c) (cf_st S t c) (cf_mt S c t) (cf_lie (S 0 2) (S 0 3) (cf_st S t) (cf_sp S t) (cf_st S t c % 64)) := rfl
  rw [ex]
  generalize cf_lie (S 0 2) (S 0 3) (cf_st S t) (cf_sp S t) (cf_st S t c % 64) = l
  generalize cf_st S t c = s
  generalize cf_mt S c t = m
  unfold cf_aft
  by_cases h4 : m ≤ 4
  · rw [if_pos h4]
    by_cases h0 : m = 0
    · subst h0
      rw [cf_mv_0]
      left
      show (s / 256 * 256 + s % 256) % 256 = _
      omega
    · cases e : cf_mv (S 0 0) (S 0 1) (cf_two (S 3 c)) s m with
      | none => left; rfl
      | some r => right; exact ⟨r, by omega, rfl, rfl⟩
  · rw [if_neg h4]
    left
    split
    · split
      · split
        · show (s % 256 + 256 * l) % 256 = _; omega
        · rfl
      · split
        · show (s % 256) % 256 = _; omega
        · rfl
    · rfl
/-- a cart of two squares whose way is free never changes places with another -/
theorem cf_noswap2 {S : cf_S} (V : cf_V S) {c o t s m r : Nat} (ho : o < S 0 2) (hs : cf_vs (S 0 0) (S 0 1) true s) (hm : m < 5) (e : cf_mv (S 0 0) (S 0 1) true s m = some r)
    (h0 : ∀ p, cf_has (cf_std (S 0 0) (S 0 1) true s) p = true → ¬ cf_has (cf_hd S t o) p = true) (h1 : ∀ p, cf_has (cf_std (S 0 0) (S 0 1) true r) p = true → ¬ cf_has (cf_hd S (t + 1) o) p = true)
    (h2 : m = 3 ∨ m = 4 → ∀ p, cf_has (cf_four (S 0 0) (S 0 1) s m) p = true → ¬ cf_has (cf_hd S (t + 1) o) p = true) : cf_swap (cf_std (S 0 0) (S 0 1) true s) (cf_std (S 0 0) (S 0 1) true r) (cf_sd S t o) (cf_sd S (t + 1) o) = false := by
  have hwh := cf_V_wh V
  have hw := V.1.1
  cases hsw : cf_swap (cf_std (S 0 0) (S 0 1) true s) (cf_std (S 0 0) (S 0 1) true r) (cf_sd S t o) (cf_sd S (t + 1) o) with
  | false => rfl
  | true =>
    exfalso
    obtain ⟨⟨x, x1, x2⟩, ⟨z, z1, z2⟩⟩ := cf_swap_t hsw
    have x3 : ¬ cf_has (cf_sd S t o) x = true := fun q => h0 x x1 (cf_sd_hd q)
    have x4 : ¬ cf_has (cf_std (S 0 0) (S 0 1) true r) x = true := fun q => h1 x q (cf_sd_hd x2)
    have z3 : ¬ cf_has (cf_std (S 0 0) (S 0 1) true s) z = true := fun q => h0 z q (cf_sd_hd z2)
    have z4 : ¬ cf_has (cf_sd S (t + 1) o) z = true := fun q => h1 z z1 (cf_sd_hd q)
    by_cases m0 : m = 0
    · subst m0
      rw [cf_mv_0] at e
      cases e
      rw [cf_std_m] at x4
      exact x4 x1
    by_cases m34 : m = 3 ∨ m = 4
    · exact h2 m34 x ((cf_turn_in hwh hs m34 e).1 x x1) (cf_sd_hd x2)
    obtain ⟨xa, y, za, d, hd, hy, s1, s2, f1, f2⟩ := cf_straight hwh hs (by omega) e
    have ex : x = xa := by
      rcases (f1 x).mp x1 with q | q
      · exact q
      · exact absurd ((f2 x).mpr (Or.inl q)) x4
    have ez : z = za := by
      rcases (f2 z).mp z1 with q | q
      · exact absurd ((f1 z).mpr (Or.inr q)) z3
      · exact q
    subst ex
    subst ez
    have hvo := (cf_wv V t).1 o ho
    -- how the other goes on
    rcases cf_on (S := S) t o with g | ⟨r', hmo, e', g⟩
    · have : cf_sd S (t + 1) o = cf_sd S t o := by
        unfold cf_sd
        rw [← cf_std_m, g, cf_std_m]
      rw [this] at x2; exact x3 x2
    · have hr' : r' < 256 := cf_mv_lt hwh hvo.1.1 (by omega) e'
      have esd : cf_sd S (t + 1) o = cf_std (S 0 0) (S 0 1) (cf_two (S 3 o)) r' := by
        unfold cf_sd
        rw [← cf_std_m, g, show (cf_st S t o / 256 * 256 + r') % 256 = r' by omega]
      have esd0 : cf_sd S t o = cf_std (S 0 0) (S 0 1) (cf_two (S 3 o)) (cf_st S t o) := rfl
      cases h2o : cf_two (S 3 o) with
      | false =>
        rw [h2o] at esd esd0 e'
        rw [esd, cf_std1] at x2
        rw [esd0, cf_std1] at z2
        unfold cf_mv at e'
        rw [if_neg (by omega), cond_false] at e'
        cases es : cf_step (S 0 0) (S 0 1) (cf_st S t o % 64) (cf_mt S o t - 1) with
        | none => rw [es] at e'; cases e'
        | some p =>
          rw [es] at e'
          cases e'
          have hp64 := cf_step_64 hwh hvo.1.1 es
          rw [(cf_cod hp64 (show cf_mt S o t - 1 < 4 by omega)).1] at x2
          subst x2
          rw [← z2] at es
          exact cf_line1 hw hy hd (by omega) s1 s2 es
      | true =>
        rw [h2o] at esd esd0 e'
        have hvo1 := hvo.1
        rw [h2o] at hvo1
        by_cases mo34 : cf_mt S o t = 3 ∨ cf_mt S o t = 4
        · have etd : cf_td S t o = cf_four (S 0 0) (S 0 1) (cf_st S t o) (cf_mt S o t) := by
            unfold cf_td cf_tq
            rw [h2o, Bool.true_and]
            rcases mo34 with q | q <;> rw [q] <;> rfl
          have := (cf_turn_in hwh hvo1 mo34 e').2 x (by rw [← esd]; exact x2)
          rw [← etd] at this
          exact h0 x x1 (cf_td_hd this).1
        · obtain ⟨xb, y', zb, d', hd', hy', t1, t2, k1, k2⟩ := cf_straight hwh hvo1 (by omega) e'
          rw [← esd0] at k1
          rw [← esd] at k2
          have ex : x = zb := by
            rcases (k2 x).mp x2 with q | q
            · exact absurd ((k1 x).mpr (Or.inr q)) x3
            · exact q
          have ez : z = xb := by
            rcases (k1 z).mp z2 with q | q
            · exact q
            · exact absurd ((k2 z).mpr (Or.inl q)) z4
          subst ex
          subst ez
          have := cf_line2 hw hy hy' hd (cf_opp_lt d') s1 s2 t2 (by rw [cf_opp_opp hd']; exact t1)
          subst this
          exact h0 y ((f1 y).mpr (Or.inr rfl)) (cf_sd_hd ((k1 y).mpr (Or.inr rfl)))
