/-! Each cart by itself: its STANCES depend on its own way alone, for each lift takes its own SHELF. -/
def cf_own (S : cf_S) (c : Nat) : Nat := if S 9 c / 256 = 0 then S 6 c else S 9 c / 256
def cf_ds (S : cf_S) (c : Nat) : Nat → Nat
  | 0 => S 9 c
  | t + 1 => (cf_aft (S 0 0) (S 0 1) (S 1) (S 3 c) (cf_ds S c t) (cf_mt S c t) (S 6 c)).getD (cf_ds S c t)
def cf_dx (S : cf_S) (c t : Nat) : Option Nat := cf_aft (S 0 0) (S 0 1) (S 1) (S 3 c) (cf_ds S c t) (cf_mt S c t) (S 6 c)
/-- a cart's way ends with its SHELF let down -/
def cf_dn (S : cf_S) (c : Nat) : Prop := 0 < S 4 c ∧ S (20 + c) (S 4 c - 1) = 6
def cf_G (S : cf_S) : Prop :=
  (∀ s s', s < S 0 3 → s' < S 0 3 → S 12 s = S 12 s' → s = s') ∧ cf_H0 S
  ∧ (∀ c, c < S 0 2 → (¬ cf_own S c = 0 → S 3 c = 1) ∧ (¬ S 9 c / 256 = 0 → ¬ S 6 c = 0 → S 9 c / 256 = S 6 c))
  ∧ (∀ c c', c < S 0 2 → c' < S 0 2 → ¬ c = c' → ¬ cf_own S c = 0 → ¬ cf_own S c = cf_own S c')
  ∧ (∀ c, c < S 0 2 → ∀ t, t < S 4 c → ¬ cf_dx S c t = none ∧ (S (20 + c) t = 5 → cf_ds S c t % 64 = S 12 (S 6 c - 1)) ∧ (S (20 + c) t = 6 → t + 1 = S 4 c))
  ∧ (∀ o c u, o < S 0 2 → c < S 0 2 → ¬ o = c → u < S 4 o → S (20 + o) u = 5 → cf_dn S c → S 4 c ≤ u → ¬ cf_ds S o u % 64 = cf_ds S c u % 64)
theorem cf_own6 {S : cf_S} (G : cf_G S) {c : Nat} (hc : c < S 0 2) (h : ¬ S 6 c = 0) : cf_own S c = S 6 c := by
  unfold cf_own
  by_cases e : S 9 c / 256 = 0
  · rw [if_pos e]
  · rw [if_neg e]; exact (G.2.2.1 c hc).2 e h
theorem cf_ds_E {S : cf_S} {c t : Nat} (h : S 4 c ≤ t) : cf_ds S c (t + 1) = cf_ds S c t := by
  rw [cf_ds]
  unfold cf_mt
  rw [if_neg (by omega)]
  unfold cf_aft
  rw [if_pos (by decide), cf_mv_0]
  show cf_ds S c t / 256 * 256 + cf_ds S c t % 256 = _
  omega
theorem cf_ds_E2 {S : cf_S} {c t u : Nat} (h : S 4 c ≤ t) (hu : t ≤ u) : cf_ds S c u = cf_ds S c t := by
  obtain ⟨d, rfl⟩ : ∃ d, u = t + d := ⟨u - t, by omega⟩
  induction d with
  | zero => rfl
  | succ d ih => rw [← Nat.add_assoc, cf_ds_E (by omega)]; exact ih (by omega)
theorem cf_aft_c {w h : Nat} {gr : Nat → Nat} {k s m l r : Nat} (hwh : w * h ≤ 64) (hs : s % 64 < w * h) (hm : m < 7) (e : cf_aft w h gr k s m l = some r) :
    (m ≤ 4 ∧ ∃ r', cf_mv w h (cf_two k) s m = some r' ∧ r' < 256 ∧ r = s / 256 * 256 + r') ∨ (m = 5 ∧ k = 1 ∧ s / 256 = 0 ∧ 0 < l ∧ r = s % 256 + 256 * l) ∨ (m = 6 ∧ k = 1 ∧ 0 < s / 256 ∧ gr (s % 64) = 2 ∧ r = s % 256) := by
  unfold cf_aft at e
  by_cases h4 : m ≤ 4
  · rw [if_pos h4] at e
    cases e1 : cf_mv w h (cf_two k) s m with
    | none => rw [e1] at e; cases e
    | some r' =>
      rw [e1] at e
      exact Or.inl ⟨h4, r', rfl, cf_mv_lt hwh hs (by omega) e1, (Option.some_inj.mp e).symm⟩
  · rw [if_neg h4] at e
    right
    split at e
    · rename_i hk
      split at e
      · rename_i h5
        split at e
        · rename_i hg
          exact Or.inl ⟨h5, hk, hg.1, hg.2, (Option.some_inj.mp e).symm⟩
        · cases e
      · rename_i h5
        split at e
        · rename_i hg
          exact Or.inr ⟨by omega, hk, hg.1, hg.2, (Option.some_inj.mp e).symm⟩
        · cases e
    · cases e
theorem cf_aft_l {w h : Nat} {gr : Nat → Nat} {k s m l l' : Nat} (hm : ¬ m = 5) : cf_aft w h gr k s m l = cf_aft w h gr k s m l' := by
  unfold cf_aft
  by_cases h4 : m ≤ 4
  · rw [if_pos h4, if_pos h4]
  · rw [if_neg h4, if_neg h4, if_neg hm, if_neg hm]
theorem cf_mt_out {S : cf_S} {c t : Nat} (h : S 4 c ≤ t) : cf_mt S c t = 0 := by unfold cf_mt; rw [if_neg (by omega)]
theorem cf_mt_in {S : cf_S} {c t : Nat} (h : t < S 4 c) : cf_mt S c t = S (20 + c) t := by unfold cf_mt; rw [if_pos h]
/-- what is loaded is the cart's own; all STANCES are valid -/
theorem cf_ds_v {S : cf_S} (V : cf_V S) (G : cf_G S) {c : Nat} (hc : c < S 0 2) : ∀ t, cf_vs (S 0 0) (S 0 1) (cf_two (S 3 c)) (cf_ds S c t) ∧ (cf_ds S c t / 256 = 0 ∨ cf_ds S c t / 256 = cf_own S c)
  | 0 => by
    refine ⟨(V.2.2.2.2.2.2.1 c hc).2.1, ?_⟩
    show S 9 c / 256 = 0 ∨ S 9 c / 256 = _
    unfold cf_own
    by_cases h : S 9 c / 256 = 0
    · exact Or.inl h
    · rw [if_neg h]; exact Or.inr rfl
  | t + 1 => by
    obtain ⟨h1, h2⟩ := cf_ds_v V G hc t
    have hv : cf_ds S c (t + 1) = (cf_dx S c t).getD (cf_ds S c t) := rfl
    rw [hv]
    cases e : cf_dx S c t with
    | none => exact ⟨h1, h2⟩
    | some r =>
      show cf_vs _ _ _ r ∧ (r / 256 = 0 ∨ r / 256 = cf_own S c)
      have hm := cf_mt_lt V hc t
      have hV := V.2.2.2.2.2.2.1 c hc
      refine ⟨(cf_aft_vs (M := max (cf_ds S c t / 256) (S 6 c)) (cf_V_wh V) h1 hm (Nat.le_max_left _ _) (Nat.le_max_right _ _) e).1, ?_⟩
      rcases cf_aft_c (cf_V_wh V) h1.1 hm e with ⟨_, r', _, hr, er⟩ | ⟨_, _, _, hl, er⟩ | ⟨_, _, _, _, er⟩
      · rw [show r / 256 = cf_ds S c t / 256 by omega]; exact h2
      · right
        rw [cf_own6 G hc (by omega)]; omega
      · left; omega
/-- from a tick to the next: lifted, let down, or the same load -/
theorem cf_ds_ld {S : cf_S} (V : cf_V S) (G : cf_G S) {c : Nat} (hc : c < S 0 2) (t : Nat) : (t < S 4 c ∧ S (20 + c) t = 5 ∧ S 3 c = 1 ∧ cf_ds S c t / 256 = 0 ∧ 0 < S 6 c ∧ cf_ds S c (t + 1) = cf_ds S c t % 256 + 256 * S 6 c) ∨ (t < S 4 c ∧ S (20 + c) t = 6 ∧ S 3 c = 1 ∧ 0 < cf_ds S c t / 256 ∧ S 1 (cf_ds S c t % 64) = 2 ∧ cf_ds S c (t + 1) = cf_ds S c t % 256) ∨ (¬ cf_mt S c t = 5 ∧ ¬ cf_mt S c t = 6 ∧ cf_ds S c (t + 1) / 256 = cf_ds S c t / 256) := by
  by_cases ht : t < S 4 c
  · have hx := (G.2.2.2.2.1 c hc t ht).1
    have hv : cf_ds S c (t + 1) = (cf_dx S c t).getD (cf_ds S c t) := rfl
    cases e : cf_dx S c t with
    | none => exact absurd e hx
    | some r =>
      rw [e] at hv
      have hv : cf_ds S c (t + 1) = r := hv
      rw [← cf_mt_in ht]
      rcases cf_aft_c (cf_V_wh V) (cf_ds_v V G hc t).1.1 (cf_mt_lt V hc t) e with ⟨h4, r', _, hr, er⟩ | ⟨h5, hk, h0, hl, er⟩ | ⟨h6, hk, h0, hg, er⟩
      · right; right; exact ⟨by omega, by omega, by omega⟩
      · left; exact ⟨ht, h5, hk, h0, hl, hv.trans er⟩
      · right; left; exact ⟨ht, h6, hk, h0, hg, hv.trans er⟩
  · right; right
    rw [cf_mt_out (by omega), cf_ds_E (by omega)]
    exact ⟨by decide, by decide, rfl⟩
theorem cf_car_u {st : Nat → Nat} {s d c : Nat} : ∀ {n : Nat}, c < n → st c / 256 = s + 1 → (∀ c', c' < n → st c' / 256 = s + 1 → c' = c) → cf_car st s d n = st c % 64
  | 0, h, _, _ => by omega
  | n + 1, h, e, u => by
    rw [cf_car]
    by_cases g : st n / 256 = s + 1
    · rw [if_pos g, u n (by omega) g]
    · rw [if_neg g]
      have : c < n := by
        rcases Nat.lt_or_ge c n with q | q
        · exact q
        · have : c = n := by omega
          subst this; exact absurd e g
      exact cf_car_u this e (fun c' h' => u c' (by omega))
theorem cf_car_n {st : Nat → Nat} {s d : Nat} : ∀ {n : Nat}, (∀ c', c' < n → ¬ st c' / 256 = s + 1) → cf_car st s d n = d
  | 0, _ => rfl
  | n + 1, u => by rw [cf_car, if_neg (u n (by omega))]; exact cf_car_n (fun c' h' => u c' (by omega))
/-- the world is what each cart does by itself -/
theorem cf_dec0 {S : cf_S} (V : cf_V S) (G : cf_G S) : ∀ t, (∀ c, c < S 0 2 → cf_st S t c = cf_ds S c t) ∧ (∀ c, c < S 0 2 → ¬ cf_ds S c t / 256 = 0 → cf_sp S t (cf_ds S c t / 256 - 1) = cf_ds S c t % 64)
    ∧ (∀ s, s < S 0 3 → cf_sp S t s = S 12 s ∨ ∃ c, c < S 0 2 ∧ cf_own S c = s + 1 ∧ (cf_ds S c t / 256 = s + 1 ∨ (cf_dn S c ∧ S 4 c ≤ t ∧ cf_sp S t s = cf_ds S c t % 64)))
  | 0 => by
    refine ⟨fun _ _ => rfl, fun c hc h => ?_, fun s hs => Or.inl rfl⟩
    have h : ¬ S 9 c / 256 = 0 := h
    have hV := (V.2.2.2.2.2.2.1 c hc).2.2.1
    exact G.2.1 c (S 9 c / 256 - 1) hc (by omega) (by omega)
  | t + 1 => by
    obtain ⟨A, B, C⟩ := cf_dec0 V G t
    have hwh := cf_V_wh V
    -- a carried SHELF has one carrier
    have uniq : ∀ u c c' s, c < S 0 2 → c' < S 0 2 → cf_ds S c u / 256 = s + 1 → cf_ds S c' u / 256 = s + 1 → c' = c := by
      intro u c c' s hc hc' e e'
      apply Classical.byContradiction
      intro hne
      have o1 := (cf_ds_v V G hc u).2
      have o2 := (cf_ds_v V G hc' u).2
      exact G.2.2.2.1 c c' hc hc' (fun q => hne q.symm) (by omega) (by omega)
    have A1 : ∀ c, c < S 0 2 → cf_st S (t + 1) c = cf_ds S c (t + 1) := by
      intro c hc
      have e0 : cf_st S (t + 1) c = (cf_aft (S 0 0) (S 0 1) (S 1) (S 3 c) (cf_st S t c) (cf_mt S c t) (cf_lie (S 0 2) (S 0 3) (cf_st S t) (cf_sp S t) (cf_st S t c % 64))).getD (cf_st S t c) := rfl
      rw [e0, A c hc, cf_ds]
      by_cases h5 : cf_mt S c t = 5
      · have ht : t < S 4 c := by
          rcases Nat.lt_or_ge t (S 4 c) with q | q
          · exact q
          · rw [cf_mt_out q] at h5; cases h5
        rw [cf_mt_in ht] at h5
        rcases cf_ds_ld V G hc t with ⟨_, _, hk, h0, hl, _⟩ | ⟨_, q, _⟩ | ⟨q, _⟩
        · have hf : S 6 c - 1 < S 0 3 := by have := (V.2.2.2.2.2.2.1 c hc).2.2.2.2.2.1; omega
          have hq := (G.2.2.2.2.1 c hc t ht).2.1 h5
          have hown := cf_own6 G hc (by omega)
          have elie : cf_lie (S 0 2) (S 0 3) (cf_st S t) (cf_sp S t) (cf_ds S c t % 64) = S 6 c := by
            have hp : ∀ s, s < S 0 3 → ((decide (cf_sp S t s = cf_ds S c t % 64) && !cf_any (fun c' => decide (cf_st S t c' / 256 = s + 1)) (S 0 2)) = true ↔ s = S 6 c - 1) := by
              intro s hs
              rw [Bool.and_eq_true, decide_eq_true_iff, Bool.not_eq_true', cf_not_true, cf_any_iff]
              constructor
              · rintro ⟨g1, g2⟩
                rcases C s hs with q | ⟨c', hc', ho, q⟩
                · exact G.1 s (S 6 c - 1) hs hf (by rw [← q, g1, hq])
                · rcases q with q | ⟨hd, hE, q⟩
                  · exact absurd ⟨c', hc', decide_eq_true (by rw [A c' hc']; exact q)⟩ g2
                  · by_cases e : c = c'
                    · subst e; omega
                    · exact absurd (by rw [← g1, q]) (G.2.2.2.2.2 c c' t hc hc' e ht h5 hd hE)
              · intro e
                subst e
                have ecar : ∀ c', c' < S 0 2 → ¬ cf_ds S c' t / 256 = S 6 c - 1 + 1 := by
                  intro c' hc' e
                  by_cases ee : c' = c
                  · subst ee; omega
                  · have o2 := (cf_ds_v V G hc' t).2
                    exact G.2.2.2.1 c c' hc hc' (fun q => ee q.symm) (by omega) (by omega)
                refine ⟨?_, fun ⟨c', hc', e⟩ => ecar c' hc' (by rw [← A c' hc']; exact of_decide_eq_true e)⟩
                rcases C (S 6 c - 1) hs with q | ⟨c', hc', ho, q⟩
                · rw [q, hq]
                · by_cases ee : c' = c
                  · subst ee
                    rcases q with q | ⟨_, hE, _⟩
                    · exact absurd q (ecar c' hc')
                    · omega
                  · exact absurd (show cf_own S c = cf_own S c' by omega) (G.2.2.2.1 c c' hc hc' (fun q => ee q.symm) (by omega))
            obtain ⟨f, hf'⟩ : ∃ f, S 6 c = f + 1 := ⟨S 6 c - 1, by omega⟩
            rw [hf']
            rw [hf', Nat.add_sub_cancel] at hp
            refine cf_ff_at (cf_ff_zero (fun s hs => ?_)) ((hp f (by omega)).mpr rfl) _ (by omega)
            rw [cf_not_true]
            intro q
            have := (hp s (by omega)).mp q
            omega
          rw [elie]
        · rw [h5] at q; cases q
        · rw [cf_mt_in ht] at q; exact absurd h5 q
      · rw [cf_aft_l h5]
    have car : ∀ s, cf_sp S (t + 1) s = cf_car (fun c => cf_st S (t + 1) c) s (cf_sp S t s) (S 0 2) := fun s => rfl
    have carU : ∀ c s, c < S 0 2 → cf_ds S c (t + 1) / 256 = s + 1 → cf_sp S (t + 1) s = cf_ds S c (t + 1) % 64 := by
      intro c s hc e
      rw [car, cf_car_u hc (by rw [A1 c hc]; exact e) (fun c' hc' e' => uniq (t + 1) c c' s hc hc' e (by rw [← A1 c' hc']; exact e')), A1 c hc]
    refine ⟨A1, fun c hc h => carU c _ hc (by omega), fun s hs => ?_⟩
    by_cases hcar : ∃ c, c < S 0 2 ∧ cf_ds S c (t + 1) / 256 = s + 1
    · obtain ⟨c, hc, e⟩ := hcar
      right
      have o1 := (cf_ds_v V G hc (t + 1)).2
      exact ⟨c, hc, by omega, Or.inl e⟩
    · have es : cf_sp S (t + 1) s = cf_sp S t s := by
        rw [car, cf_car_n (fun c' hc' e => hcar ⟨c', hc', by rw [← A1 c' hc']; exact e⟩)]
      rw [es]
      rcases C s hs with q | ⟨c, hc, ho, q⟩
      · exact Or.inl q
      · right
        refine ⟨c, hc, ho, Or.inr ?_⟩
        rcases q with q | ⟨hd, hE, q⟩
        · -- it was carried, and is no more: let down
          rcases cf_ds_ld V G hc t with ⟨_, _, _, h0, _⟩ | ⟨ht, h6, _, _, _, e⟩ | ⟨_, _, e⟩
          · omega
          · have := (G.2.2.2.2.1 c hc t ht).2.2 h6
            refine ⟨⟨by omega, by rw [← this]; exact h6⟩, by omega, ?_⟩
            have b := B c hc (by omega)
            rw [q, Nat.add_sub_cancel] at b
            rw [b, e]; omega
          · exact absurd ⟨c, hc, by rw [e]; exact q⟩ hcar
        · exact ⟨hd, by omega, by rw [cf_ds_E hE]; exact q⟩
theorem cf_dec_st {S : cf_S} (V : cf_V S) (G : cf_G S) {t c : Nat} (hc : c < S 0 2) : cf_st S t c = cf_ds S c t := (cf_dec0 V G t).1 c hc
/-- all MOVES are made -/
theorem cf_dec_made {S : cf_S} (V : cf_V S) (G : cf_G S) {t c : Nat} (hc : c < S 0 2) : cf_made S t c = true := by
  by_cases ht : t < S 4 c
  · have e0 : cf_made S t c = (cf_aft (S 0 0) (S 0 1) (S 1) (S 3 c) (cf_st S t c) (cf_mt S c t) (cf_lie (S 0 2) (S 0 3) (cf_st S t) (cf_sp S t) (cf_st S t c % 64))).isSome := rfl
    rw [e0, cf_dec_st V G hc]
    by_cases h5 : cf_mt S c t = 5
    · -- the next STANCE is loaded: so the lift was made
      cases e : cf_aft (S 0 0) (S 0 1) (S 1) (S 3 c) (cf_ds S c t) (cf_mt S c t) (cf_lie (S 0 2) (S 0 3) (cf_st S t) (cf_sp S t) (cf_ds S c t % 64)) with
      | some r => rfl
      | none =>
        exfalso
        have e1 : cf_st S (t + 1) c = (cf_aft (S 0 0) (S 0 1) (S 1) (S 3 c) (cf_st S t c) (cf_mt S c t) (cf_lie (S 0 2) (S 0 3) (cf_st S t) (cf_sp S t) (cf_st S t c % 64))).getD (cf_st S t c) := rfl
        rw [cf_dec_st V G hc, cf_dec_st V G hc, e] at e1
        have e1 : cf_ds S c (t + 1) = cf_ds S c t := e1
        rcases cf_ds_ld V G hc t with ⟨_, _, _, h0, hl, q⟩ | ⟨_, q, _⟩ | ⟨q, _⟩
        · omega
        · rw [cf_mt_in ht] at h5; rw [h5] at q; cases q
        · exact q h5
    · have := (G.2.2.2.2.1 c hc t ht).1
      unfold cf_dx at this
      rw [cf_aft_l (l' := S 6 c) h5]
      cases e : cf_aft (S 0 0) (S 0 1) (S 1) (S 3 c) (cf_ds S c t) (cf_mt S c t) (S 6 c) with
      | none => exact absurd e this
      | some r => rfl
  · unfold cf_made
    rw [cf_nx_0 (by omega)]; rfl
