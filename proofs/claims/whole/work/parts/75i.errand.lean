/-! errand of both. -/
def cf_ge (S : cf_S) (c q f : Nat) : cf_S := cf_up (cf_up S 5 c q) 6 c f
theorem cf_ge_r {S : cf_S} {c q f a b : Nat} (h5 : ¬ (a = 5 ∧ b = c)) (h6 : ¬ (a = 6 ∧ b = c)) : cf_ge S c q f a b = S a b := by
  unfold cf_ge cf_up
  rw [if_neg h6, if_neg h5]
theorem cf_ge_5 {S : cf_S} {c q f : Nat} : cf_ge S c q f 5 c = q := by
  unfold cf_ge; rw [cf_up_r (by omega), cf_up_e]
theorem cf_ge_6 {S : cf_S} {c q f : Nat} : cf_ge S c q f 6 c = f := cf_up_e
theorem cf_ge_sam {S : cf_S} {c q f : Nat} : cf_sam S (cf_ge S c q f) := fun a b _ h5 h6 _ _ => cf_ge_r (fun z => h5 z.1) (fun z => h6 z.1)
def cf_bo (S : cf_S) (c s o : Nat) : Bool := !decide (o = c) && (decide (S 6 o = s + 1) || decide (S 9 o / 256 = s + 1))
/-- whether a cart may bring a SHELF to a square -/
def cf_mbr (S : cf_S) (c q s : Nat) : Prop := S 3 c = 1 ∧ S 1 q = 2 ∧ (S 9 c / 256 = 0 ∨ S 9 c / 256 = s + 1) ∧ cf_any (cf_bo S c s) (S 0 2) = false
def cf_erz (S : cf_S) (cn n : Nat) (a3 : Int32) : Prop := cn = 0 ∨ S 3 (cn - 1) = 3 ∨ ¬ S 5 (cn - 1) = 0 ∨ ¬ S 8 (cn - 1) = 0 ∨ n = 0 ∨ cf_isb S (n - 1) = true ∨ ¬ (-1 ≤ a3.toInt ∧ a3.toInt < S 0 3) ∨ (0 ≤ a3.toInt ∧ ¬ cf_mbr S (cn - 1) (n - 1) a3.toInt.toNat)
theorem cf_V_ge {S : cf_S} (V : cf_V S) {c q f : Nat} (hq : q ≤ S 0 0 * S 0 1) (hf : f ≤ S 0 3) : cf_V (cf_ge S c q f) := by
  have r : ∀ a b, ¬ a = 5 → ¬ a = 6 → cf_ge S c q f a b = S a b := fun a b h h2 => cf_ge_r (fun z => h z.1) (fun z => h2 z.1)
  unfold cf_V
  rw [r 0 0 (by omega) (by omega), r 0 1 (by omega) (by omega), r 0 2 (by omega) (by omega), r 0 3 (by omega) (by omega)]
  refine ⟨V.1, V.2.1, V.2.2.1, V.2.2.2.1, fun p => ?_, fun y => ?_, fun o ho => ?_, fun s hs => ?_⟩
  · rw [r _ _ (by omega) (by omega)]; exact V.2.2.2.2.1 p
  · rw [r _ _ (by omega) (by omega)]; exact V.2.2.2.2.2.1 y
  · rw [r 3 _ (by omega) (by omega), r 9 _ (by omega) (by omega), r 4 _ (by omega) (by omega), r 7 _ (by omega) (by omega), r 8 _ (by omega) (by omega)]
    obtain ⟨h1, h2, h3, h4, h5, h6, h7, h8, h9⟩ := V.2.2.2.2.2.2.1 o ho
    refine ⟨h1, h2, h3, h4, ?_, ?_, h7, h8, fun u hu => by rw [r _ _ (by omega) (by omega)]; exact h9 u hu⟩
    · by_cases e : o = c
      · subst e; rw [cf_ge_5]; exact hq
      · rw [cf_ge_r (by omega) (by omega)]; exact h5
    · by_cases e : o = c
      · subst e; rw [cf_ge_6]; exact hf
      · rw [cf_ge_r (by omega) (by omega)]; exact h6
  · rw [r _ _ (by omega) (by omega)]; exact V.2.2.2.2.2.2.2 s hs
theorem cf_ds_ge {S : cf_S} {c q f o : Nat} (h : ¬ o = c) : ∀ u, cf_ds (cf_ge S c q f) o u = cf_ds S o u
  | 0 => cf_ge_r (by omega) (by omega)
  | u + 1 => by
    have r : ∀ a b, ¬ a = 5 → ¬ a = 6 → cf_ge S c q f a b = S a b := fun a b h h2 => cf_ge_r (fun z => h z.1) (fun z => h2 z.1)
    have r1 : cf_ge S c q f 1 = S 1 := funext fun b => r 1 b (by omega) (by omega)
    rw [cf_ds, cf_ds, cf_ds_ge h u]
    unfold cf_mt
    rw [r 0 0 (by omega) (by omega), r 0 1 (by omega) (by omega), r1, r 3 o (by omega) (by omega), r 4 o (by omega) (by omega), r _ u (by omega) (by omega), cf_ge_r (a := 6) (by omega) (by omega)]
theorem cf_Ir_ge {S : cf_S} {ls c q f : Nat} (I : cf_Ir ls S) (hc : c < S 0 2) (h3 : ¬ S 3 c = 3) (h5 : S 5 c = 0) (hq : 0 < q) (hq2 : q ≤ S 0 0 * S 0 1) (hf : f ≤ S 0 3) (hm : f = 0 ∨ (S 3 c = 1 ∧ (S 9 c / 256 = 0 ∨ S 9 c / 256 = f) ∧ cf_any (cf_bo S c (f - 1)) (S 0 2) = false)) : cf_Ir ls (cf_ge S c q f) := by
  obtain ⟨V, G, E1, E2, Bd, hls, E3, E4⟩ := I
  have r : ∀ a b, ¬ a = 5 → ¬ a = 6 → cf_ge S c q f a b = S a b := fun a b h h2 => cf_ge_r (fun z => h z.1) (fun z => h2 z.1)
  have hs := cf_ge_sam (S := S) (c := c) (q := q) (f := f)
  have r1 : cf_ge S c q f 1 = S 1 := funext fun b => r 1 b (by omega) (by omega)
  have h4 : S 4 c = 0 := by
    rcases Nat.eq_zero_or_pos (S 4 c) with z | z
    · exact z
    · have := (E1 c hc h3 z).1; omega
  have h6c : S 6 c = 0 := Classical.byContradiction fun z => E4 c hc z h5
  have ow : ∀ o, ¬ o = c → cf_own (cf_ge S c q f) o = cf_own S o := fun o ho => by
    unfold cf_own; rw [r 9 o (by omega) (by omega), cf_ge_r (a := 6) (by omega) (by omega)]
  have owc : cf_own (cf_ge S c q f) c = if S 9 c / 256 = 0 then f else S 9 c / 256 := by
    unfold cf_own; rw [r 9 c (by omega) (by omega), cf_ge_6]
  have oth : ∀ o, o < S 0 2 → ¬ o = c → ¬ f = 0 → ¬ cf_own S o = f := by
    intro o ho hne hf0 z
    rcases hm with z0 | ⟨_, _, z1⟩
    · exact hf0 z0
    · rw [cf_not_true] at z1
      apply z1
      refine cf_any_true ho ?_
      unfold cf_bo
      rw [decide_eq_false hne]
      unfold cf_own at z
      by_cases w : S 9 o / 256 = 0
      · rw [if_pos w] at z
        rw [decide_eq_true (show S 6 o = f - 1 + 1 by omega)]; rfl
      · rw [if_neg w] at z
        rw [decide_eq_true (show S 9 o / 256 = f - 1 + 1 by omega), Bool.or_true]; rfl
  have ownc : ¬ S 9 c / 256 = 0 → cf_own S c = S 9 c / 256 := fun w => by unfold cf_own; rw [if_neg w]
  refine ⟨cf_V_ge V hq2 hf, ⟨fun s s' hs hs' => ?_, cf_H0_sam hs G.2.1, fun o ho => ?_, fun o o' ho ho' hne => ?_, fun o ho u hu => ?_, fun o o' u ho ho' hne hu h5' hd hle => ?_⟩, fun o ho q1 q2 => ?_, fun o ho z => ?_, fun o ho u hu => ?_, hls, fun o ho z => ?_, fun o ho z => ?_⟩
  · rw [r _ _ (by omega) (by omega)] at hs hs'
    rw [r _ _ (by omega) (by omega), r _ _ (by omega) (by omega)]
    exact G.1 s s' hs hs'
  all_goals rw [r 0 2 (by omega) (by omega)] at ho
  · rw [r 3 o (by omega) (by omega), r 9 o (by omega) (by omega)]
    by_cases e : o = c
    · subst e
      rw [owc, cf_ge_6]
      refine ⟨fun z => ?_, fun w z => ?_⟩
      · by_cases w : S 9 o / 256 = 0
        · rw [if_pos w] at z
          rcases hm with z0 | z1
          · exact absurd z0 z
          · exact z1.1
        · exact (G.2.2.1 o ho).1 (by rw [ownc w]; exact w)
      · rcases hm with z0 | z1
        · exact absurd z0 z
        · rcases z1.2.1 with z2 | z2
          · exact absurd z2 w
          · exact z2
    · rw [ow o e, cf_ge_r (a := 6) (by omega) (by omega)]
      exact G.2.2.1 o ho
  · rw [r 0 2 (by omega) (by omega)] at ho'
    by_cases e : o = c
    · subst e
      rw [owc, ow o' (fun z => hne z.symm)]
      intro z1 z2
      by_cases w : S 9 o / 256 = 0
      · rw [if_pos w] at z1 z2
        exact oth o' ho' (fun z => hne z.symm) z1 z2.symm
      · rw [if_neg w, ← ownc w] at z1 z2
        exact G.2.2.2.1 o o' ho ho' hne z1 z2
    · rw [ow o e]
      by_cases e' : o' = c
      · subst e'
        rw [owc]
        intro z1 z2
        by_cases w : S 9 o' / 256 = 0
        · rw [if_pos w] at z2
          exact oth o ho hne (fun z => z1 (by rw [z2, z])) z2
        · rw [if_neg w, ← ownc w] at z2
          exact G.2.2.2.1 o o' ho ho' hne z1 z2
      · rw [ow o' e']
        exact G.2.2.2.1 o o' ho ho' hne
  · rw [r 4 o (by omega) (by omega)] at hu
    have e : ¬ o = c := fun z => by subst z; omega
    have := G.2.2.2.2.1 o ho u hu
    unfold cf_dx at this ⊢
    unfold cf_mt at this ⊢
    rw [r 0 0 (by omega) (by omega), r 0 1 (by omega) (by omega), r1, r 3 o (by omega) (by omega), r 4 o (by omega) (by omega), r _ u (by omega) (by omega), cf_ge_r (a := 6) (by omega) (by omega), cf_ds_ge e, r 12 _ (by omega) (by omega)]
    exact this
  · rw [r 0 2 (by omega) (by omega)] at ho'
    rw [r 4 o (by omega) (by omega)] at hu
    rw [r _ u (by omega) (by omega)] at h5'
    rw [r 4 o' (by omega) (by omega)] at hle
    have hd' : cf_dn S o' := by
      unfold cf_dn at hd ⊢
      rw [r 4 o' (by omega) (by omega), r _ _ (by omega) (by omega)] at hd
      exact hd
    have e : ¬ o = c := fun z => by subst z; omega
    have e' : ¬ o' = c := fun z => by
      subst z
      have := hd'.1; omega
    rw [cf_ds_ge e, cf_ds_ge e']
    exact G.2.2.2.2.2 o o' u ho ho' hne hu h5' hd' hle
  · rw [r 3 o (by omega) (by omega)] at q1
    rw [r 4 o (by omega) (by omega)] at q2
    have e : ¬ o = c := fun z => by subst z; omega
    rw [cf_ge_r (a := 5) (by omega) (by omega), r 7 o (by omega) (by omega)]
    exact E1 o ho q1 q2
  · rw [r 8 o (by omega) (by omega)] at z
    rw [r 4 o (by omega) (by omega)]; exact E2 o ho z
  · have eb : cf_bar (cf_ge S c q f) = cf_bar S := cf_bar_eq (r 0 0 (by omega) (by omega)) (r 0 1 (by omega) (by omega)) r1 (funext fun b => r 2 b (by omega) (by omega))
    have : cf_bad (cf_ge S c q f) o u = cf_bad S o u := by
      unfold cf_bad cf_fit
      rw [cf_st_sam hs, cf_sp_sam hs, cf_hd_sam hs, cf_sd_sam hs, eb, r 0 2 (by omega) (by omega), r 0 3 (by omega) (by omega), r 3 o (by omega) (by omega)]
    rw [this]; exact Bd o ho u hu
  · rw [r 3 o (by omega) (by omega)] at z
    have e : ¬ o = c := fun w => by subst w; exact h3 z
    rw [cf_ge_r (a := 5) (by omega) (by omega), r 8 o (by omega) (by omega)]; exact E3 o ho z
  · by_cases e : o = c
    · subst e; rw [cf_ge_5]; omega
    · rw [cf_ge_r (a := 6) (by omega) (by omega)] at z
      rw [cf_ge_r (a := 5) (by omega) (by omega)]; exact E4 o ho z
