/-! Two states that differ in one cart's way: the others are the same, so a search of that cart finds the same. -/
def cf_bc (S S' : cf_S) (c : Nat) : Prop := ∀ a b, ¬ (a = 4 ∧ b = c) → ¬ a = 20 + c → ¬ a = 7 → ¬ a = 8 → S' a b = S a b
theorem cf_bc_lg {S S' : cf_S} {c : Nat} (h : cf_lg S c S') : cf_bc S S' c := by
  obtain ⟨n, mv, rfl⟩ := h
  intro a b h1 h2 _ _
  by_cases h4 : a = 4
  · subst h4; exact cf_app_4n (fun q => h1 ⟨rfl, q⟩)
  · exact cf_app_r h4 h2
theorem cf_bc_mt {S S' : cf_S} {c o : Nat} (B : cf_bc S S' c) (ho : ¬ o = c) (t : Nat) : cf_mt S' o t = cf_mt S o t := by
  unfold cf_mt
  rw [B 4 o (by omega) (by omega) (by omega) (by omega), B (20 + o) t (by omega) (by omega) (by omega) (by omega)]
theorem cf_bc_1 {S S' : cf_S} {c : Nat} (B : cf_bc S S' c) : S' 1 = S 1 := by funext q; exact B 1 q (by omega) (by omega) (by omega) (by omega)
theorem cf_bc_own {S S' : cf_S} {c : Nat} (B : cf_bc S S' c) (o : Nat) : cf_own S' o = cf_own S o := by
  unfold cf_own
  rw [B 9 o (by omega) (by omega) (by omega) (by omega), B 6 o (by omega) (by omega) (by omega) (by omega)]
theorem cf_bc_ds {S S' : cf_S} {c o : Nat} (B : cf_bc S S' c) (ho : ¬ o = c) : ∀ t, cf_ds S' o t = cf_ds S o t
  | 0 => B 9 o (by omega) (by omega) (by omega) (by omega)
  | t + 1 => by
    rw [cf_ds, cf_ds, cf_bc_ds B ho t, cf_bc_mt B ho, cf_bc_1 B, B 0 0 (by omega) (by omega) (by omega) (by omega), B 0 1 (by omega) (by omega) (by omega) (by omega), B 3 o (by omega) (by omega) (by omega) (by omega), B 6 o (by omega) (by omega) (by omega) (by omega)]
section CFB
variable {S S' : cf_S} {c : Nat}
theorem cf_bc_n (B : cf_bc S S' c) : S' 0 2 = S 0 2 := B 0 2 (by omega) (by omega) (by omega) (by omega)
theorem cf_bc_m (B : cf_bc S S' c) : S' 0 3 = S 0 3 := B 0 3 (by omega) (by omega) (by omega) (by omega)
theorem cf_bc_st (V : cf_V S) (G : cf_G S) (V' : cf_V S') (G' : cf_G S') (B : cf_bc S S' c) {o : Nat} (ho : o < S 0 2) (hne : ¬ o = c) (u : Nat) : cf_st S' u o = cf_st S u o := by
  rw [cf_dec_st V G ho, cf_dec_st V' G' (by rw [cf_bc_n B]; exact ho), cf_bc_ds B hne]
theorem cf_bc_sp (V : cf_V S) (G : cf_G S) (V' : cf_V S') (G' : cf_G S') (B : cf_bc S S' c) {s : Nat} (hs : ¬ cf_own S c = s + 1) : ∀ u, cf_sp S' u s = cf_sp S u s
  | 0 => B 12 s (by omega) (by omega) (by omega) (by omega)
  | u + 1 => by
    have ih := cf_bc_sp V G V' G' B hs u
    have e1 : cf_sp S (u + 1) s = cf_car (fun o => cf_st S (u + 1) o) s (cf_sp S u s) (S 0 2) := rfl
    have e2 : cf_sp S' (u + 1) s = cf_car (fun o => cf_st S' (u + 1) o) s (cf_sp S' u s) (S' 0 2) := rfl
    rw [e1, e2, ih, cf_bc_n B]
    have key : ∀ n, n ≤ S 0 2 → cf_car (fun o => cf_st S' (u + 1) o) s (cf_sp S u s) n = cf_car (fun o => cf_st S (u + 1) o) s (cf_sp S u s) n := by
      intro n
      induction n with
      | zero => intro _; rfl
      | succ n ihn =>
        intro hn
        rw [cf_car, cf_car, ihn (by omega)]
        by_cases e : n = c
        · subst e
          have a1 : ¬ cf_st S (u + 1) n / 256 = s + 1 := by
            rw [cf_dec_st V G (by omega)]
            have := (cf_ds_v V G (c := n) (by omega) (u + 1)).2
            omega
          have a2 : ¬ cf_st S' (u + 1) n / 256 = s + 1 := by
            have hn' : n < S' 0 2 := by rw [cf_bc_n B]; omega
            rw [cf_dec_st V' G' hn']
            have := (cf_ds_v V' G' hn' (u + 1)).2
            rw [cf_bc_own B] at this
            omega
          rw [if_neg a1, if_neg a2]
        · rw [cf_bc_st V G V' G' B (by omega) e]
    exact key _ (Nat.le_refl _)
theorem cf_bc_sd (V : cf_V S) (G : cf_G S) (V' : cf_V S') (G' : cf_G S') (B : cf_bc S S' c) {o : Nat} (ho : o < S 0 2) (hne : ¬ o = c) (u : Nat) : cf_sd S' u o = cf_sd S u o := by
  unfold cf_sd
  rw [cf_bc_st V G V' G' B ho hne, B 0 0 (by omega) (by omega) (by omega) (by omega), B 0 1 (by omega) (by omega) (by omega) (by omega), B 3 o (by omega) (by omega) (by omega) (by omega)]
theorem cf_bc_hd (V : cf_V S) (G : cf_G S) (V' : cf_V S') (G' : cf_G S') (B : cf_bc S S' c) {o : Nat} (ho : o < S 0 2) (hne : ¬ o = c) (u : Nat) : cf_hd S' u o = cf_hd S u o := by
  have e : ∀ u, cf_td S' u o = cf_td S u o := by
    intro u
    unfold cf_td
    rw [cf_bc_st V G V' G' B ho hne, cf_bc_mt B hne, B 0 0 (by omega) (by omega) (by omega) (by omega), B 0 1 (by omega) (by omega) (by omega) (by omega), B 3 o (by omega) (by omega) (by omega) (by omega)]
  unfold cf_hd
  rw [cf_bc_sd V G V' G' B ho hne, e, e]
theorem cf_bc_oth (V : cf_V S) (G : cf_G S) (V' : cf_V S') (G' : cf_G S') (B : cf_bc S S' c) (u : Nat) : cf_othg (S' 0 2) (cf_hd S') c u = cf_othg (S 0 2) (cf_hd S) c u := by
  unfold cf_othg
  rw [cf_bc_n B]
  refine cf_un_eq (fun o ho => ?_)
  by_cases e : o = c
  · rw [if_pos e, if_pos e]
  · rw [if_neg e, if_neg e, cf_bc_hd V G V' G' B ho e]
theorem cf_bc_row (V : cf_V S) (G : cf_G S) (V' : cf_V S') (G' : cf_G S') (B : cf_bc S S' c) (hc : c < S 0 2) {l : Nat} (hl : l = 0 ∨ l = cf_own S c) (u : Nat) : cf_rowg S' (cf_sp S') c l u = cf_rowg S (cf_sp S) c l u := by
  unfold cf_rowg
  rw [B 3 c (by omega) (by omega) (by omega) (by omega)]
  by_cases h : S 3 c = 1 ∧ l = 0
  · rw [decide_eq_true h]; rfl
  · rw [decide_eq_false h]
    show cf_sqg (S' 0 3) (cf_sp S') u l = cf_sqg (S 0 3) (cf_sp S) u l
    unfold cf_sqg
    rw [cf_bc_m B]
    refine cf_un_eq (fun s hs => ?_)
    by_cases e : s + 1 = l
    · rw [if_pos e, if_pos e]
    · rw [if_neg e, if_neg e, cf_bc_sp V G V' G' B]
      intro q
      have := (G.2.2.1 c hc).1 (by omega)
      omega
theorem cf_bc_bar (B : cf_bc S S' c) : cf_bar S' = cf_bar S := by
  unfold cf_bar
  rw [B 0 0 (by omega) (by omega) (by omega) (by omega), B 0 1 (by omega) (by omega) (by omega) (by omega)]
  refine cf_un_eq (fun q hq => ?_)
  unfold cf_isb
  rw [B 0 0 (by omega) (by omega) (by omega) (by omega), B 1 q (by omega) (by omega) (by omega) (by omega), B 2 _ (by omega) (by omega) (by omega) (by omega)]
theorem cf_bc_gT (V : cf_V S) (G : cf_G S) (V' : cf_V S') (G' : cf_G S') (B : cf_bc S S' c) (hc : c < S 0 2) {l : Nat} (hl : l = 0 ∨ l = cf_own S c) : cf_gT S' (cf_sp S') (cf_hd S') c l = cf_gT S (cf_sp S) (cf_hd S) c l := by
  funext u
  unfold cf_gT
  rw [cf_bc_bar B, cf_bc_oth V G V' G' B, cf_bc_row V G V' G' B hc hl]
theorem cf_bc_gL (V : cf_V S) (G : cf_G S) (V' : cf_V S') (G' : cf_G S') (B : cf_bc S S' c) (hc : c < S 0 2) {l : Nat} (hl : l = 0 ∨ l = cf_own S c) : cf_gL S' (cf_sp S') (cf_hd S') c l = cf_gL S (cf_sp S) (cf_hd S) c l := by
  funext u
  unfold cf_gL
  rw [show cf_othg (S' 0 2) (cf_hd S') c = cf_othg (S 0 2) (cf_hd S) c from funext (cf_bc_oth V G V' G' B), show cf_rowg S' (cf_sp S') c l = cf_rowg S (cf_sp S) c l from funext (cf_bc_row V G V' G' B hc hl)]
theorem cf_bc_may (V : cf_V S) (G : cf_G S) (V' : cf_V S') (G' : cf_G S') (B : cf_bc S S' c) (T : Nat → Int64) : cf_may S' T (cf_sd S') c = cf_may S T (cf_sd S) c := by
  funext t s m
  unfold cf_may
  rw [B 0 0 (by omega) (by omega) (by omega) (by omega), B 0 1 (by omega) (by omega) (by omega) (by omega), B 3 c (by omega) (by omega) (by omega) (by omega), cf_bc_n B]
  cases cf_mv (S 0 0) (S 0 1) (cf_two (S 3 c)) s m with
  | none => rfl
  | some r =>
    dsimp only
    rw [cf_any_eq (q := fun o => !decide (o = c) && cf_swap (cf_std (S 0 0) (S 0 1) (cf_two (S 3 c)) s) (cf_std (S 0 0) (S 0 1) (cf_two (S 3 c)) r) (cf_sd S t o) (cf_sd S (t + 1) o)) (fun o ho => ?_)]
    by_cases e : o = c
    · rw [decide_eq_true e]; rfl
    · rw [cf_bc_sd V G V' G' B ho e, cf_bc_sd V G V' G' B ho e]
theorem cf_bc_gl (B : cf_bc S S' c) (st sp st' sp' : Nat → Nat → Nat) (Lt : Nat → Int64) (tg : Nat) (last : Bool) (s t : Nat) : cf_gl S' st' sp' Lt c tg 0 last s t = cf_gl S st sp Lt c tg 0 last s t := by
  unfold cf_gl
  rw [B 0 0 (by omega) (by omega) (by omega) (by omega), B 0 1 (by omega) (by omega) (by omega) (by omega), B 3 c (by omega) (by omega) (by omega) (by omega), decide_eq_true rfl, Bool.true_or, Bool.true_or]
end CFB
/-- the search as a function of what may be made -/
theorem cf_cst_cong {S S' : cf_S} {T T' : Nat → Int64} {sd sd' : Nat → Nat → Int64} {c : Nat} (h : cf_may S' T' sd' c = cf_may S T sd c) (h3 : S' 3 c = S 3 c) (D : Nat → Nat) (t s m : Nat) : cf_cst S' T' sd' D c t s m = cf_cst S T sd D c t s m := by
  unfold cf_cst; rw [h, h3]
theorem cf_bst_cong {S S' : cf_S} {T T' : Nat → Int64} {sd sd' : Nat → Nat → Int64} {c : Nat} (h : cf_may S' T' sd' c = cf_may S T sd c) (h3 : S' 3 c = S 3 c) (D : Nat → Nat) (t s : Nat) : ∀ n, cf_bst S' T' sd' D c t s n = cf_bst S T sd D c t s n
  | 0 => rfl
  | n + 1 => by rw [cf_bst, cf_bst, cf_bst_cong h h3 D t s n, cf_cst_cong h h3]
theorem cf_tl_cong {S S' : cf_S} {T T' : Nat → Int64} {sd sd' : Nat → Nat → Int64} {c : Nat} (h : cf_may S' T' sd' c = cf_may S T sd c) (h3 : S' 3 c = S 3 c) (f s0 n : Nat) (gl : Nat → Bool) : ∀ j, cf_tl S' T' sd' c f s0 n gl j = cf_tl S T sd c f s0 n gl j
  | 0 => by funext s; rw [cf_tl, cf_tl, h]
  | j + 1 => by funext s; rw [cf_tl, cf_tl, h, cf_tl_cong h h3 f s0 n gl j, cf_bst_cong h h3]
theorem cf_lm_cong {S S' : cf_S} {T T' : Nat → Int64} {sd sd' : Nat → Nat → Int64} {c : Nat} (h : cf_may S' T' sd' c = cf_may S T sd c) (h3 : S' 3 c = S 3 c) (D : Nat → Nat) (t s d1 n : Nat) : cf_lm S' T' sd' D c t s d1 n = cf_lm S T sd D c t s d1 n := by
  unfold cf_lm
  exact cf_ff_eq (fun m _ => by rw [cf_cst_cong h h3])
theorem cf_pth_cong {S S' : cf_S} {T T' : Nat → Int64} {sd sd' : Nat → Nat → Int64} {c : Nat} (h : cf_may S' T' sd' c = cf_may S T sd c) (h3 : S' 3 c = S 3 c) (f s0 n : Nat) (gl : Nat → Bool) : ∀ i, cf_pth S' T' sd' c f s0 n gl i = cf_pth S T sd c f s0 n gl i
  | 0 => rfl
  | i + 1 => by rw [cf_pth, cf_pth, cf_pth_cong h h3 f s0 n gl i, h, cf_tl_cong h h3, cf_tl_cong h h3, cf_lm_cong h h3]
theorem cf_pmv_cong {S S' : cf_S} {T T' : Nat → Int64} {sd sd' : Nat → Nat → Int64} {c : Nat} (h : cf_may S' T' sd' c = cf_may S T sd c) (h3 : S' 3 c = S 3 c) (f s0 n : Nat) (gl : Nat → Bool) (i : Nat) : cf_pmv S' T' sd' c f s0 n gl i = cf_pmv S T sd c f s0 n gl i := by
  unfold cf_pmv
  rw [cf_pth_cong h h3, cf_tl_cong h h3, cf_tl_cong h h3, cf_lm_cong h h3]
set_option maxRecDepth 100000 in
theorem cf_gn_bc {S S' : cf_S} {c : Nat} (V : cf_V S) (G : cf_G S) (V' : cf_V S') (G' : cf_G S') (B : cf_bc S S' c) (hc : c < S 0 2) {f s tg : Nat} {last : Bool} (hl : s / 256 = 0 ∨ s / 256 = cf_own S c) : cf_gn S' (cf_st S') (cf_sp S') (cf_sd S') (cf_hd S') c f s tg 0 last = cf_gn S (cf_st S) (cf_sp S) (cf_sd S) (cf_hd S) c f s tg 0 last := by
  unfold cf_gn
  refine cf_ff_eq (fun i _ => ?_)
  unfold cf_gp
  refine cf_any_eq (fun r _ => ?_)
  rw [cf_bc_gT V G V' G' B hc hl, cf_bc_gL V G V' G' B hc hl, cf_bc_may V G V' G' B, cf_bc_gl B (cf_st S) (cf_sp S)]
theorem cf_gm_bc {S S' : cf_S} {c : Nat} (V : cf_V S) (G : cf_G S) (V' : cf_V S') (G' : cf_G S') (B : cf_bc S S' c) (hc : c < S 0 2) {f s tg n i : Nat} {last : Bool} (hl : s / 256 = 0 ∨ s / 256 = cf_own S c) : cf_gm S' (cf_st S') (cf_sp S') (cf_sd S') (cf_hd S') c f s tg 0 last n i = cf_gm S (cf_st S) (cf_sp S) (cf_sd S) (cf_hd S) c f s tg 0 last n i := by
  unfold cf_gm
  rw [cf_bc_gT V G V' G' B hc hl, cf_bc_gL V G V' G' B hc hl, cf_pmv_cong (cf_bc_may V G V' G' B _) (B 3 c (by omega) (by omega) (by omega) (by omega))]
  congr 1
  funext x
  exact cf_bc_gl B (cf_st S) (cf_sp S) _ _ _ _ _ _ _
