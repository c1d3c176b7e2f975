/-! Steps back and forth; that a state stays one that a cart can have; that all STANCES do. -/
theorem cf_opp_opp {d : Nat} (hd : d < 4) : cf_opp (cf_opp d) = d := by unfold cf_opp; omega
theorem cf_opp_lt (d : Nat) : cf_opp d < 4 := by unfold cf_opp; omega
theorem cf_step_inv {w h q d p : Nat} (hd : d < 4) (hq : q < w * h) (e : cf_step w h q d = some p) : cf_step w h p (cf_opp d) = some q := by
  have hd4 : d = 0 ∨ d = 1 ∨ d = 2 ∨ d = 3 := by omega
  rcases hd4 with rfl | rfl | rfl | rfl
  · unfold cf_step at e
    rw [if_pos rfl] at e
    split at e <;> cases e
    show cf_step w h (q - w) 2 = some q
    unfold cf_step
    rw [if_neg (by decide), if_neg (by decide), if_pos rfl, if_pos (by omega)]
    congr 1; omega
  · unfold cf_step at e
    rw [if_neg (by decide), if_pos rfl] at e
    split at e <;> cases e
    rename_i h1
    show cf_step w h (q + 1) 3 = some q
    unfold cf_step
    rw [if_neg (by decide), if_neg (by decide), if_neg (by decide)]
    have : (q + 1) % w = q % w + 1 := by rw [Nat.add_mod, Nat.mod_eq_of_lt (show 1 < w by omega), Nat.mod_eq_of_lt h1]
    rw [if_pos (by omega)]
    rfl
  · unfold cf_step at e
    rw [if_neg (by decide), if_neg (by decide), if_pos rfl] at e
    split at e <;> cases e
    show cf_step w h (q + w) 0 = some q
    unfold cf_step
    rw [if_pos rfl, if_pos (by omega)]
    congr 1; omega
  · unfold cf_step at e
    rw [if_neg (by decide), if_neg (by decide), if_neg (by decide)] at e
    split at e <;> cases e
    rename_i h1
    show cf_step w h (q - 1) 1 = some q
    unfold cf_step
    rw [if_neg (by decide), if_pos rfl]
    have hw : 0 < w := by
      rcases Nat.eq_zero_or_pos w with g | g
      · subst g; rw [Nat.zero_mul] at hq; omega
      · exact g
    have hq0 : 0 < q := by
      rcases Nat.eq_zero_or_pos q with g | g
      · subst g; rw [Nat.zero_mod] at h1; omega
      · exact g
    have hlt := Nat.mod_lt q hw
    have h2 : (q - 1) % w = q % w - 1 := by
      have e1 := Nat.div_add_mod q w
      have e2 : q - 1 = (q % w - 1) + w * (q / w) := by omega
      rw [e2, Nat.add_mul_mod_self_left, Nat.mod_eq_of_lt (by omega)]
    rw [if_pos (by omega)]
    congr 1; omega
theorem cf_cod {p d : Nat} (hp : p < 64) (hd : d < 4) : (p + 64 * d) % 64 = p ∧ (p + 64 * d) / 64 % 4 = d := by omega
theorem cf_tn_some {w h s to b n c : Nat} (e : cf_tn w h s to = some (b, n, c)) : cf_step w h (s % 64) (cf_opp (s / 64 % 4)) = some b ∧ cf_step w h b to = some n ∧ cf_step w h (s % 64) to = some c := by
  unfold cf_tn at e
  split at e
  · cases e
  · rename_i b' hb
    split at e
    · rename_i n' c' hn hc
      cases e
      exact ⟨hb, hn, hc⟩
    · cases e
theorem cf_to_lt (s m : Nat) : cf_to s m < 4 := by unfold cf_to cf_lf cf_rt; split <;> omega
theorem cf_mv_vs {w h : Nat} {two : Bool} {s m r : Nat} (hwh : w * h ≤ 64) (hs : cf_vs w h two s) (hm : m < 5) (e : cf_mv w h two s m = some r) : cf_vs w h two r := by
  obtain ⟨h1, h2⟩ := hs
  unfold cf_mv at e
  split at e
  · cases e; exact cf_vs_m.mpr ⟨h1, h2⟩
  · cases two with
    | false =>
      simp only [cond_false] at e
      cases hst : cf_step w h (s % 64) (m - 1) with
      | none => rw [hst] at e; cases e
      | some p =>
        rw [hst] at e; cases e
        refine ⟨?_, fun q => by cases q⟩
        show (p + 64 * (m - 1)) % 64 < w * h
        rw [(cf_cod (cf_step_64 hwh h1 hst) (by omega)).1]
        exact cf_step_lt h1 hst
    | true =>
      simp only [cond_true] at e
      have hd : s / 64 % 4 < 4 := by omega
      split at e
      · cases hst : cf_step w h (s % 64) (s / 64 % 4) with
        | none => rw [hst] at e; cases e
        | some p =>
          rw [hst] at e; cases e
          show cf_vs w h true (p + 64 * (s / 64 % 4))
          obtain ⟨g1, g2⟩ := cf_cod (cf_step_64 hwh h1 hst) hd
          refine ⟨by rw [g1]; exact cf_step_lt h1 hst, fun _ => ?_⟩
          rw [g1, g2, cf_step_inv hd h1 hst]
          exact fun q => by cases q
      · split at e
        · split at e
          · cases e
          · rename_i b hb
            split at e
            · cases e
            · rename_i b2 hb2
              cases e
              obtain ⟨g1, g2⟩ := cf_cod (cf_step_64 hwh h1 hb) hd
              refine ⟨by rw [g1]; exact cf_step_lt h1 hb, fun _ => ?_⟩
              rw [g1, g2, hb2]
              exact fun q => by cases q
        · split at e
          · cases e
          · rename_i b n c hn
            cases e
            obtain ⟨k1, k2, k3⟩ := cf_tn_some hn
            have hb := cf_step_lt h1 k1
            obtain ⟨g1, g2⟩ := cf_cod (cf_step_64 hwh hb k2) (cf_to_lt s m)
            refine ⟨by rw [g1]; exact cf_step_lt hb k2, fun _ => ?_⟩
            rw [g1, g2, cf_step_inv (cf_to_lt s m) hb k2]
            exact fun q => by cases q
/-- what holds of every state -/
def cf_V (S : cf_S) : Prop := (2 ≤ S 0 0 ∧ S 0 0 ≤ 8) ∧ (2 ≤ S 0 1 ∧ S 0 1 ≤ 8) ∧ S 0 2 ≤ 6 ∧ S 0 3 ≤ 12 ∧ (∀ q, S 1 q < 4) ∧ (∀ y, S 2 y ≤ 1)
  ∧ (∀ c, c < S 0 2 → S 3 c < 4 ∧ cf_vs (S 0 0) (S 0 1) (cf_two (S 3 c)) (S 9 c) ∧ S 9 c / 256 ≤ S 0 3 ∧ S 4 c ≤ 400 ∧ S 5 c ≤ S 0 0 * S 0 1 ∧ S 6 c ≤ S 0 3 ∧ S 7 c ≤ 1 ∧ S 8 c ≤ 2 ∧ ∀ t, t < S 4 c → S (20 + c) t < 7)
  ∧ (∀ s, s < S 0 3 → S 12 s < S 0 0 * S 0 1)
theorem cf_V_wh {S : cf_S} (V : cf_V S) : S 0 0 * S 0 1 ≤ 64 := Nat.mul_le_mul V.1.2 V.2.1.2
theorem cf_ff_le (p : Nat → Bool) : ∀ n, cf_ff p n ≤ n
  | 0 => Nat.le_refl 0
  | n + 1 => by
    have := cf_ff_le p n
    unfold cf_ff
    split
    · cases p n
      · exact Nat.zero_le _
      · exact Nat.le_refl _
    · omega
theorem cf_mt_lt {S : cf_S} (V : cf_V S) {c : Nat} (hc : c < S 0 2) (t : Nat) : cf_mt S c t < 7 := by
  unfold cf_mt
  split
  · rename_i h; exact (V.2.2.2.2.2.2.1 c hc).2.2.2.2.2.2.2.2 t h
  · decide
theorem cf_aft_vs {w h : Nat} {gr : Nat → Nat} {k s m l M r : Nat} (hwh : w * h ≤ 64) (hs : cf_vs w h (cf_two k) s) (hm : m < 7) (hM : s / 256 ≤ M) (hl : l ≤ M) (e : cf_aft w h gr k s m l = some r) : cf_vs w h (cf_two k) r ∧ r / 256 ≤ M := by
  unfold cf_aft at e
  split at e
  · cases hmv : cf_mv w h (cf_two k) s m with
    | none => rw [hmv] at e; cases e
    | some p =>
      rw [hmv] at e; cases e
      have h1 := cf_mv_vs hwh hs (by omega) hmv
      have h2 := cf_mv_lt hwh hs.1 (by omega) hmv
      show cf_vs w h (cf_two k) (s / 256 * 256 + p) ∧ (s / 256 * 256 + p) / 256 ≤ M
      refine ⟨cf_vs_m.mp ?_, by omega⟩
      rw [show (s / 256 * 256 + p) % 256 = p by omega]
      exact h1
  · split at e
    · split at e
      · split at e <;> cases e
        refine ⟨cf_vs_m.mp ?_, by omega⟩
        rw [show (s % 256 + 256 * l) % 256 = s % 256 by omega]
        exact cf_vs_m.mpr hs
      · split at e <;> cases e
        exact ⟨cf_vs_m.mpr hs, by omega⟩
    · cases e
theorem cf_car_lt {st : Nat → Nat} {s d b : Nat} (hd : d < b) : ∀ n, (∀ c, c < n → st c % 64 < b) → cf_car st s d n < b
  | 0, _ => hd
  | n + 1, h => by
    unfold cf_car
    split
    · exact h n (by omega)
    · exact cf_car_lt hd n (fun c hc => h c (by omega))
/-- all STANCES are such as a cart can have, all SHELVES are on squares -/
theorem cf_wv {S : cf_S} (V : cf_V S) : ∀ t, (∀ c, c < S 0 2 → cf_vs (S 0 0) (S 0 1) (cf_two (S 3 c)) (cf_st S t c) ∧ cf_st S t c / 256 ≤ S 0 3) ∧ (∀ s, s < S 0 3 → cf_sp S t s < S 0 0 * S 0 1)
  | 0 => ⟨fun c hc => ⟨(V.2.2.2.2.2.2.1 c hc).2.1, (V.2.2.2.2.2.2.1 c hc).2.2.1⟩, V.2.2.2.2.2.2.2⟩
  | t + 1 => by
    obtain ⟨h1, h2⟩ := cf_wv V t
    have g : ∀ c, c < S 0 2 → cf_vs (S 0 0) (S 0 1) (cf_two (S 3 c)) (cf_st S (t + 1) c) ∧ cf_st S (t + 1) c / 256 ≤ S 0 3 := by
      intro c hc
      show cf_vs (S 0 0) (S 0 1) (cf_two (S 3 c)) ((cf_nx S (cf_w S t) t c).getD ((cf_w S t).1 c)) ∧ ((cf_nx S (cf_w S t) t c).getD ((cf_w S t).1 c)) / 256 ≤ S 0 3
      cases hn : cf_nx S (cf_w S t) t c with
      | none => exact h1 c hc
      | some r => exact cf_aft_vs (cf_V_wh V) (h1 c hc).1 (cf_mt_lt V hc t) (h1 c hc).2 (cf_ff_le _ _) hn
    exact ⟨g, fun s hs => cf_car_lt (h2 s hs) (S 0 2) (fun c hc => (g c hc).1.1)⟩
