/-! A way that is cut; trouble; one round of stop(). -/
def cf_cut (S : cf_S) (c k : Nat) : cf_S := fun a b => if a = 4 ∧ b = c then k else S a b
def cf_fte (S : cf_S) (c x : Nat) : cf_S := fun a b => if a = 8 ∧ b = c then x else S a b
/-- TROUBLED -/
def cf_trb (S : cf_S) (k c : Nat) : Bool := decide (S 8 c = 0) && decide (k < S 4 c) && cf_any (fun i => cf_bad S c (k + 1 + i)) (401 - k)
/-- the first that is, and 1; g: among the GUESTS -/
def cf_frt (S : cf_S) (k : Nat) (g : Bool) : Nat := cf_ff (fun c => (decide (S 3 c = 3) == g) && cf_trb S k c) (S 0 2)
def cf_r78 (S S2 : cf_S) : Prop := ∀ a b, ¬ a = 7 → ¬ a = 8 → S2 a b = S a b
theorem cf_r78_bc {S S2 : cf_S} (h : cf_r78 S S2) (c : Nat) : cf_bc S S2 c := fun a b _ _ h1 h2 => h a b h1 h2
theorem cf_r78_sam {S S2 : cf_S} (h : cf_r78 S S2) : cf_sam S S2 := fun a b _ _ _ h1 h2 => h a b h1 h2
theorem cf_r78_pd (S : cf_S) (c : Nat) : cf_r78 S (cf_pd S c) := fun a b h1 _ => cf_pd_r h1
theorem cf_r78_fte (S : cf_S) (c x : Nat) : cf_r78 S (cf_fte S c x) := fun a b _ h => by unfold cf_fte; rw [if_neg (fun q => h q.1)]
theorem cf_G_78 {S S2 : cf_S} (G : cf_G S) (h : cf_r78 S S2) : cf_G S2 :=
  cf_G_bc (c := S 0 2) G (cf_r78_bc h _) (fun q => absurd q (Nat.lt_irrefl _)) (fun q => absurd q (Nat.lt_irrefl _)) (fun q => absurd q (Nat.lt_irrefl _))
theorem cf_bad_78 {S S2 : cf_S} (h : cf_r78 S S2) (c u : Nat) : cf_bad S2 c u = cf_bad S c u := by
  have hs := cf_r78_sam h
  have eb : cf_bar S2 = cf_bar S := cf_bc_bar (cf_r78_bc h 0)
  unfold cf_bad cf_fit
  rw [cf_st_sam hs, cf_sp_sam hs, cf_hd_sam hs, cf_sd_sam hs, eb, h 0 _ (by omega) (by omega), h 0 _ (by omega) (by omega), h 3 _ (by omega) (by omega)]
theorem cf_V_fte {S : cf_S} (V : cf_V S) (c : Nat) {x : Nat} (hx : x ≤ 2) : cf_V (cf_fte S c x) := by
  have r : ∀ a b, ¬ a = 8 → cf_fte S c x a b = S a b := fun a b h => by unfold cf_fte; rw [if_neg (fun q => h q.1)]
  obtain ⟨a, b, d, e, f, g, h, k⟩ := V
  unfold cf_V
  simp only [r 0 _ (by omega), r 1 _ (by omega), r 2 _ (by omega), r 3 _ (by omega), r 4 _ (by omega), r 9 _ (by omega), r 5 _ (by omega), r 6 _ (by omega), r 7 _ (by omega), r 12 _ (by omega)]
  refine ⟨a, b, d, e, f, g, fun i hi => ?_, k⟩
  obtain ⟨h1, h2, h3, h4, h5, h6, h7, h8, h9⟩ := h i hi
  refine ⟨h1, h2, h3, h4, h5, h6, h7, ?_, fun t ht => by rw [r _ _ (by omega)]; exact h9 t ht⟩
  unfold cf_fte
  by_cases q : 8 = 8 ∧ i = c
  · rw [if_pos q]; exact hx
  · rw [if_neg q]; exact h8
section CFK
variable {S : cf_S} {c k : Nat}
theorem cf_cut_r {a b : Nat} (h : ¬ (a = 4 ∧ b = c)) : cf_cut S c k a b = S a b := by unfold cf_cut; rw [if_neg h]
theorem cf_cut_4 : cf_cut S c k 4 c = k := by unfold cf_cut; rw [if_pos ⟨rfl, rfl⟩]
theorem cf_cut_bc : cf_bc S (cf_cut S c k) c := fun a b h _ _ _ => cf_cut_r h
theorem cf_cut_lg (h : k ≤ S 4 c) : cf_lg (cf_cut S c k) c S := by
  refine ⟨S 4 c - k, fun i => S (20 + c) (k + i), ?_⟩
  funext a b
  by_cases h4 : a = 4
  · subst h4
    by_cases hb : b = c
    · subst hb; rw [cf_app_4, cf_cut_4]; omega
    · rw [cf_app_4n hb, cf_cut_r (fun q => hb q.2)]
  · by_cases h20 : a = 20 + c
    · subst h20
      rw [cf_app_w, cf_cut_4]
      by_cases hb : b < k
      · rw [if_pos hb, cf_cut_r (by omega)]
      · rw [if_neg hb, show k + (b - k) = b by omega]
    · rw [cf_app_r h4 h20, cf_cut_r (fun q => h4 q.1)]
theorem cf_V_cut (V : cf_V S) (h : k ≤ S 4 c) : cf_V (cf_cut S c k) := by
  obtain ⟨n, mv, e⟩ := cf_cut_lg h
  rw [e] at V
  exact cf_V_back V
theorem cf_cut_ds (h : k ≤ S 4 c) {t : Nat} (ht : t ≤ k) : cf_ds (cf_cut S c k) c t = cf_ds S c t := by
  obtain ⟨n, mv, e⟩ := cf_cut_lg h
  have := cf_app_ds (S := cf_cut S c k) (c := c) (n := n) (mv := mv) t (by rw [cf_cut_4]; exact ht)
  rw [← e] at this
  exact this.symm
theorem cf_cut_dx (h : k ≤ S 4 c) {t : Nat} (ht : t < k) : cf_dx (cf_cut S c k) c t = cf_dx S c t := by
  obtain ⟨n, mv, e⟩ := cf_cut_lg h
  have := cf_app_dx (S := cf_cut S c k) (c := c) (n := n) (mv := mv) (t := t) (by rw [cf_cut_4]; exact ht)
  rw [← e] at this
  exact this.symm
theorem cf_cut_w (h : k ≤ S 4 c) {t : Nat} (ht : t ≤ k) : cf_w (cf_cut S c k) t = cf_w S t := by
  obtain ⟨n, mv, e⟩ := cf_cut_lg h
  have := cf_app_pre (S := cf_cut S c k) (c := c) (n := n) (mv := mv) t (by rw [cf_cut_4]; exact ht)
  rw [← e] at this
  exact this.symm
theorem cf_cut_dn (G : cf_G S) (hc : c < S 0 2) (h : k < S 4 c) : ¬ cf_dn (cf_cut S c k) c := by
  rintro ⟨h1, h2⟩
  rw [cf_cut_4] at h1 h2
  rw [cf_cut_r (by omega)] at h2
  have := (G.2.2.2.2.1 c hc (k - 1) (by omega)).2.2 h2
  omega
theorem cf_G_cut (G : cf_G S) (h : k < S 4 c) : cf_G (cf_cut S c k) := by
  refine cf_G_bc G cf_cut_bc (fun hc t ht => ?_) (fun hc c' u hc' hne hu h5 hd hE => ?_) (fun hc o u ho hne hu h5 hd hE => ?_)
  · rw [cf_cut_4] at ht
    rw [cf_cut_dx (by omega) ht, cf_cut_ds (by omega) (by omega), cf_cut_r (by omega)]
    obtain ⟨a, b, d⟩ := G.2.2.2.2.1 c hc t (by omega)
    exact ⟨a, b, fun q => by have := d q; omega⟩
  · rw [cf_cut_4] at hu
    rw [cf_cut_r (by omega)] at h5
    rw [cf_cut_ds (by omega) (by omega)]
    exact G.2.2.2.2.2 c c' u hc hc' hne (by omega) h5 hd hE
  · exact absurd hd (cf_cut_dn G hc h)
theorem cf_cut_mt (h : k ≤ S 4 c) {t : Nat} (ht : t < k) (o : Nat) : cf_mt (cf_cut S c k) o t = cf_mt S o t := by
  by_cases e : o = c
  · subst e
    rw [cf_mt_in (by rw [cf_cut_4]; exact ht), cf_mt_in (by omega), cf_cut_r (by omega)]
  · exact cf_bc_mt cf_cut_bc e t
/-- up to its last tick a cut way has no more trouble -/
theorem cf_cut_bad (V : cf_V S) (h : k ≤ S 4 c) {y u : Nat} (hy : y < S 0 2) (hu : u ≤ k) (hb : cf_bad S y u = false) : cf_bad (cf_cut S c k) y u = false := by
  refine cf_bad_mon V (cf_V_cut V h) (fun a b ha => cf_cut_r (by omega)) hy (fun o ho => ⟨?_, ?_⟩) (fun s hs => ?_) (fun o ho p hp => ?_) hb
  · unfold cf_st; rw [cf_cut_w h hu]
  · unfold cf_st; rw [cf_cut_w h (by omega)]
  · unfold cf_sp; rw [cf_cut_w h hu]
  · have sd : cf_sd (cf_cut S c k) u o = cf_sd S u o := by
      unfold cf_sd cf_st
      rw [cf_cut_w h hu, cf_cut_r (by omega), cf_cut_r (by omega), cf_cut_r (by omega)]
    have td : ∀ t, t < k → cf_td (cf_cut S c k) t o = cf_td S t o := by
      intro t ht
      unfold cf_td cf_st
      rw [cf_cut_w h (by omega), cf_cut_mt h ht, cf_cut_r (by omega), cf_cut_r (by omega), cf_cut_r (by omega)]
    unfold cf_hd at hp ⊢
    rw [cf_hor, cf_hor, Bool.or_eq_true, Bool.or_eq_true] at hp ⊢
    rcases hp with (hp | hp) | hp
    · left; left; rw [sd] at hp; exact hp
    · left; right
      by_cases e : u < k
      · rw [td u e] at hp; exact hp
      · by_cases eo : o = c
        · subst eo
          rw [cf_td_0 (by rw [cf_cut_4]; omega), cf_h0] at hp; cases hp
        · have : cf_td (cf_cut S c k) u o = cf_td S u o := by
            unfold cf_td cf_st
            rw [cf_cut_w h (by omega), cf_bc_mt cf_cut_bc eo, cf_cut_r (by omega), cf_cut_r (by omega), cf_cut_r (by omega)]
          rw [this] at hp; exact hp
    · right
      by_cases e : u = 0
      · rw [if_pos e, cf_h0] at hp; cases hp
      · rw [if_neg e] at hp ⊢
        rw [td (u - 1) (by omega)] at hp; exact hp
end CFK
/-- all through stop(): nothing is amiss up to tick k, and those that are halted have no MOVES behind it -/
def cf_Jk (k : Nat) (S : cf_S) : Prop := cf_V S ∧ cf_G S ∧ (∀ c, c < S 0 2 → ¬ S 3 c = 3 → 0 < S 4 c → 0 < S 5 c ∧ S 7 c = 1) ∧ (∀ c, c < S 0 2 → ¬ S 8 c = 0 → S 4 c ≤ k) ∧ (∀ c, c < S 0 2 → ∀ u, u ≤ k → cf_bad S c u = false) ∧ k ≤ 400
theorem cf_trb_t {S : cf_S} {k c : Nat} (h : cf_trb S k c = true) : S 8 c = 0 ∧ k < S 4 c := by
  unfold cf_trb at h
  rw [Bool.and_eq_true, Bool.and_eq_true, decide_eq_true_iff, decide_eq_true_iff] at h
  exact h.1
/-- what a plan behind a cut leaves -/
theorem cf_Jk_plan {S S1 : cf_S} {k x : Nat} (J : cf_Jk k S) (hx : x < S 0 2) (hk : ¬ S 3 x = 3) (h8 : S 8 x = 0) (h4 : k < S 4 x) (h : cf_pl (cf_cut S x k) x = some S1) : cf_Jk k (cf_pd S1 x) ∧ cf_bc S S1 x ∧ cf_V S1 ∧ cf_G S1 ∧ (∀ u, k ≤ u → u < 402 → cf_bad S1 x u = false) ∧ (∀ t, t ≤ k → cf_ds S1 x t = cf_ds S x t) := by
  obtain ⟨V, G, E1, E2, Bd, hk4⟩ := J
  have V' := cf_V_cut (c := x) V (Nat.le_of_lt h4)
  have G' := cf_G_cut (c := x) G h4
  have hx' : x < cf_cut S x k 0 2 := by rw [cf_cut_r (by omega)]; exact hx
  have nd := cf_cut_dn G hx h4
  obtain ⟨V1, G1, L1, bad1, _⟩ := cf_pl_some V' G' hx' nd h
  rw [cf_cut_4] at bad1
  have B1 := cf_bc_lg L1
  have B : cf_bc S S1 x := fun a b q1 q2 q3 q4 => (B1 a b q1 q2 q3 q4).trans (cf_cut_bc a b q1 q2 q3 q4)
  have hn : S1 0 2 = S 0 2 := cf_bc_n B
  have ds1 : ∀ t, t ≤ k → cf_ds S1 x t = cf_ds (cf_cut S x k) x t := by
    obtain ⟨n, mv, e⟩ := L1
    intro t ht
    rw [e]
    exact cf_app_ds t (by rw [cf_cut_4]; exact ht)
  have w1 : ∀ t, t ≤ k → cf_w S1 t = cf_w (cf_cut S x k) t := by
    obtain ⟨n, mv, e⟩ := L1
    intro t ht
    rw [e]
    exact cf_app_pre t (by rw [cf_cut_4]; exact ht)
  have mt1 : ∀ t, t < k → ∀ o, cf_mt S1 o t = cf_mt (cf_cut S x k) o t := by
    intro t ht o
    by_cases e : o = x
    · subst e
      obtain ⟨n, mv, e⟩ := L1
      rw [e]
      exact cf_app_mt1 (by rw [cf_cut_4]; exact ht)
    · exact cf_bc_mt B1 e t
  have Bd' : ∀ y, y < S 0 2 → ∀ u, u ≤ k → cf_bad (cf_cut S x k) y u = false := fun y hy u hu => cf_cut_bad V (Nat.le_of_lt h4) hy hu (Bd y hy u hu)
  have Bd1 : ∀ y, y < S 0 2 → ∀ u, u ≤ k → cf_bad S1 y u = false := by
    intro y hy u hu
    by_cases e : u = k
    · subst e
      by_cases ey : y = x
      · subst ey; exact bad1 u (Nat.le_refl _) (by omega)
      · refine cf_bad_oth V' G' V1 G1 B1 hx' (by rw [cf_cut_r (by omega)]; exact hy) ey (Bd' y hy u hu) (bad1 u (Nat.le_refl _) (by omega)) (fun ⟨t, q1, q2⟩ => ⟨t, q1, by rw [ds1 t q1]; exact q2⟩)
    · have hr : ∀ a b, a < 4 → S1 a b = cf_cut S x k a b := fun a b ha => B1 a b (by omega) (by omega) (by omega) (by omega)
      refine cf_bad_mon V' V1 hr (by rw [cf_cut_r (by omega)]; exact hy) (fun o ho => ⟨?_, ?_⟩) (fun s hs => ?_) (fun o ho p hp => ?_) (Bd' y hy u hu)
      · unfold cf_st; rw [w1 u hu]
      · unfold cf_st; rw [w1 (u - 1) (by omega)]
      · unfold cf_sp; rw [w1 u hu]
      · have td : ∀ t, t < k → cf_td S1 t o = cf_td (cf_cut S x k) t o := by
          intro t ht
          unfold cf_td cf_st
          rw [w1 t (by omega), mt1 t ht, hr 0 0 (by omega), hr 0 1 (by omega), hr 3 o (by omega)]
        have ehd : cf_hd S1 u o = cf_hd (cf_cut S x k) u o := by
          unfold cf_hd
          rw [td u (by omega), td (u - 1) (by omega)]
          unfold cf_sd cf_st
          rw [w1 u hu, hr 0 0 (by omega), hr 0 1 (by omega), hr 3 o (by omega)]
        rw [ehd] at hp; exact hp
  refine ⟨⟨cf_V_pd V1 x, cf_G_78 G1 (cf_r78_pd S1 x), fun c hc q1 q2 => ?_, fun c hc q => ?_, fun c hc u hu => ?_, hk4⟩, B, V1, G1, bad1, fun t ht => by rw [ds1 t ht, cf_cut_ds (Nat.le_of_lt h4) ht]⟩
  · rw [cf_pd_r (by omega), hn] at hc
    rw [cf_pd_r (by omega), B 3 c (by omega) (by omega) (by omega) (by omega)] at q1
    rw [cf_pd_r (by omega)] at q2
    rw [cf_pd_r (by omega), B 5 c (by omega) (by omega) (by omega) (by omega)]
    by_cases e : c = x
    · subst e; exact ⟨(E1 c hc q1 (by omega)).1, by unfold cf_pd; rw [if_pos ⟨rfl, rfl⟩]⟩
    · rw [B 4 c (by omega) (by omega) (by omega) (by omega)] at q2
      refine ⟨(E1 c hc q1 q2).1, ?_⟩
      unfold cf_pd
      rw [if_neg (by omega), cf_lg_e L1 (by omega) (by omega), cf_cut_r (by omega)]
      exact (E1 c hc q1 q2).2
  · rw [cf_pd_r (by omega), hn] at hc
    rw [cf_pd_r (by omega)] at q ⊢
    have e8 : S1 8 c = S 8 c := by rw [cf_lg_e L1 (by omega) (by omega), cf_cut_r (by omega)]
    rw [e8] at q
    by_cases e : c = x
    · subst e; exact absurd h8 q
    · rw [B 4 c (by omega) (by omega) (by omega) (by omega)]; exact E2 c hc q
  · rw [cf_pd_r (by omega), hn] at hc
    rw [cf_bad_78 (cf_r78_pd S1 x)]
    exact Bd1 c hc u hu
theorem cf_Jk_strand {S : cf_S} {k x : Nat} (J : cf_Jk k S) (hx : x < S 0 2) (h4 : k < S 4 x) : cf_Jk k (cf_fte (cf_cut S x k) x 2) := by
  obtain ⟨V, G, E1, E2, Bd, hk4⟩ := J
  have r' : ∀ a b, ¬ a = 8 → ¬ a = 7 → cf_fte (cf_cut S x k) x 2 a b = cf_cut S x k a b := fun a b h h7 => cf_r78_fte _ _ _ a b h7 h
  refine ⟨cf_V_fte (cf_V_cut V (Nat.le_of_lt h4)) x (by decide), cf_G_78 (cf_G_cut G h4) (cf_r78_fte _ _ _), fun c hc q1 q2 => ?_, fun c hc q => ?_, fun c hc u hu => ?_, hk4⟩
  · rw [r' 0 _ (by omega) (by omega), cf_cut_r (by omega)] at hc
    rw [r' 3 _ (by omega) (by omega), cf_cut_r (by omega)] at q1
    rw [r' 4 _ (by omega) (by omega)] at q2
    have e7 : cf_fte (cf_cut S x k) x 2 7 c = S 7 c := by unfold cf_fte; rw [if_neg (by omega), cf_cut_r (by omega)]
    rw [r' 5 _ (by omega) (by omega), cf_cut_r (by omega), e7]
    by_cases e : c = x
    · subst e; exact E1 c hc q1 (by omega)
    · rw [cf_cut_r (by omega)] at q2; exact E1 c hc q1 q2
  · rw [r' 0 _ (by omega) (by omega), cf_cut_r (by omega)] at hc
    rw [r' 4 _ (by omega) (by omega)]
    by_cases e : c = x
    · subst e; rw [cf_cut_4]; exact Nat.le_refl _
    · rw [cf_cut_r (by omega)]
      have : cf_fte (cf_cut S x k) x 2 8 c = S 8 c := by unfold cf_fte; rw [if_neg (by omega), cf_cut_r (by omega)]
      rw [this] at q
      exact E2 c hc q
  · rw [r' 0 _ (by omega) (by omega), cf_cut_r (by omega)] at hc
    rw [cf_bad_78 (cf_r78_fte _ _ _)]
    exact cf_cut_bad V (Nat.le_of_lt h4) hc hu (Bd c hc u hu)
