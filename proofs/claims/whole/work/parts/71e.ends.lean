/-! stop() ends: a measure falls. -/
def cf_cnt (p : Nat → Bool) (n : Nat) : Nat := cf_sum (fun c => bif p c then 1 else 0) n
theorem cf_cnt_le (p : Nat → Bool) : ∀ n, cf_cnt p n ≤ n
  | 0 => Nat.le_refl _
  | n + 1 => by
    have := cf_cnt_le p n
    unfold cf_cnt at this ⊢
    rw [cf_sum]
    cases p n <;> simp only [cond_true, cond_false] <;> omega
theorem cf_cnt_mono {p q : Nat → Bool} : ∀ {n : Nat}, (∀ i, i < n → q i = true → p i = true) → cf_cnt q n ≤ cf_cnt p n
  | 0, _ => Nat.le_refl _
  | n + 1, h => by
    have := cf_cnt_mono (p := p) (q := q) (n := n) (fun i hi => h i (by omega))
    have hn := h n (by omega)
    unfold cf_cnt at this ⊢
    rw [cf_sum, cf_sum]
    cases e : q n with
    | false => cases p n <;> simp only [cond_true, cond_false] <;> omega
    | true => rw [hn e]; simp only [cond_true]; omega
theorem cf_cnt_lt {p q : Nat → Bool} {j : Nat} : ∀ {n : Nat}, (∀ i, i < n → q i = true → p i = true) → j < n → p j = true → q j = false → cf_cnt q n < cf_cnt p n
  | 0, _, h, _, _ => by omega
  | n + 1, h, hj, h1, h2 => by
    by_cases e : j = n
    · subst e
      have := cf_cnt_mono (p := p) (q := q) (n := j) (fun i hi => h i (by omega))
      unfold cf_cnt at this ⊢
      rw [cf_sum, cf_sum, h1, h2]
      simp only [cond_true, cond_false]; omega
    · have := cf_cnt_lt (p := p) (q := q) (j := j) (n := n) (fun i hi => h i (by omega)) (by omega) h1 h2
      have hn := h n (by omega)
      unfold cf_cnt at this ⊢
      rw [cf_sum, cf_sum]
      cases e : q n with
      | false => cases p n <;> simp only [cond_true, cond_false] <;> omega
      | true => rw [hn e]; simp only [cond_true]; omega
theorem cf_cnt_eq {p q : Nat → Bool} {n : Nat} (h : ∀ i, i < n → q i = p i) : cf_cnt q n = cf_cnt p n :=
  Nat.le_antisymm (cf_cnt_mono (fun i hi e => by rw [← h i hi]; exact e)) (cf_cnt_mono (fun i hi e => by rw [h i hi]; exact e))
/-- a way that meets nobody, whatever SHELVES stand there -/
def cf_um (S : cf_S) (c u : Nat) : Prop := (cf_hd S u c &&& (cf_bar S ||| cf_othg (S 0 2) (cf_hd S) c u)) = 0 ∧ cf_nsw S c u
theorem cf_um_bad {S : cf_S} (V : cf_V S) {c u : Nat} (hc : c < S 0 2) (h : cf_bad S c u = false) : cf_um S c u := by
  obtain ⟨h1, h2⟩ := (cf_bad_iff V hc).mp h
  refine ⟨?_, h2⟩
  have hwh := cf_V_wh V
  rw [cf_dj] at h1 ⊢
  intro p hp q
  have := cf_hd_in V hc p hp
  apply h1 p hp
  rw [cf_blk_gT (by omega)]
  unfold cf_gT
  rw [cf_hor _ (cf_rowg _ _ _ _ _), q, Bool.true_or, Bool.or_true]
theorem cf_um_oth {S S' : cf_S} {c y u : Nat} (V : cf_V S) (G : cf_G S) (V' : cf_V S') (G' : cf_G S') (B : cf_bc S S' c) (hc : c < S 0 2) (hy : y < S 0 2) (hne : ¬ y = c) (h1 : cf_um S y u) (h2 : cf_um S' c u) : cf_um S' y u := by
  have hc' : c < S' 0 2 := by rw [cf_bc_n B]; exact hc
  have hy' : y < S' 0 2 := by rw [cf_bc_n B]; exact hy
  obtain ⟨a1, a2⟩ := h1
  obtain ⟨b1, b2⟩ := h2
  have ehd : cf_hd S' u y = cf_hd S u y := cf_bc_hd V G V' G' B hy hne u
  rw [cf_dj] at a1 b1
  refine ⟨?_, ?_⟩
  · rw [ehd, cf_dj]
    intro p hp q
    rw [cf_hor, Bool.or_eq_true] at q
    rcases q with q | q
    · apply a1 p hp
      rw [cf_bc_bar B] at q
      rw [cf_hor, q]; rfl
    · unfold cf_othg at q
      rw [cf_has_un, cf_any_iff] at q
      obtain ⟨o, ho, q⟩ := q
      rw [cf_bc_n B] at ho
      by_cases z : o = y
      · rw [if_pos z, cf_h0] at q; cases q
      · rw [if_neg z] at q
        by_cases z2 : o = c
        · subst z2
          apply b1 p q
          rw [cf_hor]
          have : cf_has (cf_othg (S' 0 2) (cf_hd S') o u) p = true := by
            unfold cf_othg
            rw [cf_has_un]
            exact cf_any_true hy' (by rw [if_neg hne, ehd]; exact hp)
          rw [this, Bool.or_true]
        · rw [cf_bc_hd V G V' G' B ho z2] at q
          apply a1 p hp
          rw [cf_hor]
          have : cf_has (cf_othg (S 0 2) (cf_hd S) y u) p = true := by
            unfold cf_othg
            rw [cf_has_un]
            exact cf_any_true ho (by rw [if_neg z]; exact q)
          rw [this, Bool.or_true]
  · rcases a2 with a2 | a2
    · exact Or.inl a2
    · rcases b2 with b2 | b2
      · exact Or.inl b2
      · right
        intro o ho z
        rw [cf_bc_sd V G V' G' B hy hne, cf_bc_sd V G V' G' B hy hne]
        by_cases z2 : o = c
        · subst z2
          rw [cf_swap_sym]
          have := b2 y hy' hne
          rw [cf_bc_sd V G V' G' B hy hne, cf_bc_sd V G V' G' B hy hne] at this
          exact this
        · rw [cf_bc_n B] at ho
          rw [cf_bc_sd V G V' G' B ho z2, cf_bc_sd V G V' G' B ho z2]
          exact a2 o ho z
theorem cf_um_78 {S S2 : cf_S} (h : cf_r78 S S2) (c u : Nat) : cf_um S2 c u ↔ cf_um S c u := by
  have hs := cf_r78_sam h
  unfold cf_um cf_nsw
  rw [cf_hd_sam hs, cf_sd_sam hs, cf_bc_bar (cf_r78_bc h 0), h 0 2 (by omega) (by omega)]
/-- the first tick with a load -/
theorem cf_first {S : cf_S} {c k : Nat} (hk : cf_ds S c k / 256 = 0) : ∀ d, ¬ cf_ds S c (k + d) / 256 = 0 → ∃ e, e < d ∧ ¬ cf_ds S c (k + e + 1) / 256 = 0 ∧ ∀ i, i ≤ e → cf_ds S c (k + i) / 256 = 0
  | 0, h => absurd hk h
  | d + 1, h => by
    by_cases q : cf_ds S c (k + d) / 256 = 0
    · by_cases q2 : ∀ i, i ≤ d → cf_ds S c (k + i) / 256 = 0
      · exact ⟨d, by omega, h, q2⟩
      · have : ∃ i, i ≤ d ∧ ¬ cf_ds S c (k + i) / 256 = 0 := by
          apply Classical.byContradiction
          intro z
          exact q2 (fun i hi => Classical.byContradiction (fun w => z ⟨i, hi, w⟩))
        obtain ⟨i, hi, h2⟩ := this
        have : i < d := by
          rcases Nat.lt_or_ge i d with z | z
          · exact z
          · have : i = d := by omega
            subst this; exact absurd q h2
        obtain ⟨e, h3, h4, h5⟩ := cf_first hk i h2
        exact ⟨e, by omega, h4, h5⟩
    · obtain ⟨e, h3, h4, h5⟩ := cf_first hk d q
      exact ⟨e, by omega, h4, h5⟩
set_option maxRecDepth 100000 in
/-- a way that meets nobody, planned anew, lifts no later -/
theorem cf_sooner {S S1 : cf_S} {k x : Nat} (J : cf_Jk k S) (hx : x < S 0 2) (hk : ¬ S 3 x = 3) (h8 : S 8 x = 0) (h4 : k < S 4 x) (um : ∀ u, k ≤ u → u < 402 → cf_um S x u) (h : cf_pl (cf_cut S x k) x = some S1) (u : Nat) : cf_lifted S x u → cf_lifted S1 x u := by
  obtain ⟨J1, B, V1, G1, bad1, ds1⟩ := cf_Jk_plan J hx hk h8 h4 h
  obtain ⟨V, G, E1, E2, Bd, hk4⟩ := J
  have V' := cf_V_cut (c := x) V (Nat.le_of_lt h4)
  have G' := cf_G_cut (c := x) G h4
  have hx' : x < cf_cut S x k 0 2 := by rw [cf_cut_r (by omega)]; exact hx
  have hx1 : x < S1 0 2 := by rw [cf_bc_n B]; exact hx
  have nd := cf_cut_dn G hx h4
  have h400 := (V.2.2.2.2.2.2.1 x hx).2.2.2.1
  have hwh := cf_V_wh V
  rintro ⟨t, ht, hl⟩
  by_cases htk : t ≤ k
  · exact ⟨t, ht, by rw [ds1 t htk]; exact hl⟩
  by_cases hlk : cf_ds S x k / 256 = 0
  · obtain ⟨d, rfl⟩ : ∃ d, t = k + d := ⟨t - k, by omega⟩
    obtain ⟨e, he, hl1, hun⟩ := cf_first hlk d hl
    -- the lift
    have hlift : k + e < S 4 x ∧ S (20 + x) (k + e) = 5 ∧ S 3 x = 1 ∧ 0 < S 6 x := by
      rcases cf_ds_ld V G hx (k + e) with ⟨a, b, c, _, f, _⟩ | ⟨_, _, _, q, _⟩ | ⟨_, _, q⟩
      · exact ⟨a, b, c, f⟩
      · have := hun e (Nat.le_refl _); omega
      · have := hun e (Nat.le_refl _); omega
    obtain ⟨l1, l2, l3, l4⟩ := hlift
    have h2f : cf_two (S 3 x) = false := by rw [l3]; rfl
    have hq := (G.2.2.2.2.1 x hx (k + e) l1).2.1 l2
    have k3 : cf_cut S x k 3 x = S 3 x := cf_cut_r (by omega)
    have k6 : cf_cut S x k 6 x = S 6 x := cf_cut_r (by omega)
    have k4 : cf_cut S x k 4 x = k := cf_cut_4
    have k0 : cf_cut S x k 0 0 = S 0 0 := cf_cut_r (by omega)
    have k1 : cf_cut S x k 0 1 = S 0 1 := cf_cut_r (by omega)
    have kn : cf_cut S x k 0 2 = S 0 2 := cf_cut_r (by omega)
    have km : cf_cut S x k 0 3 = S 0 3 := cf_cut_r (by omega)
    have k12 : ∀ s, cf_cut S x k 12 s = S 12 s := fun s => cf_cut_r (by omega)
    have dk : cf_ds (cf_cut S x k) x k = cf_ds S x k := cf_cut_ds (Nat.le_of_lt h4) (Nat.le_refl _)
    have hld : ¬ cf_ds (cf_cut S x k) x (cf_cut S x k 4 x) / 256 = cf_cut S x k 6 x := by rw [k4, k6, dk]; omega
    obtain ⟨_, _, _, _, hpl⟩ := cf_pl_some V' G' hx' nd h
    obtain ⟨n, hn, hn2, hn3, _, _⟩ := hpl (by rw [k6]; omega) hld
    rw [k4] at hn hn2 hn3
    rw [k6, k12] at hn
    -- the old way arrives too
    have Bc : cf_bc S (cf_cut S x k) x := cf_cut_bc
    have hst : cf_st (cf_cut S x k) k x = cf_ds S x k := by rw [cf_dec_st V' G' hx', dk]
    rw [hst] at hn
    have hT : ∀ w, cf_gT (cf_cut S x k) (cf_sp (cf_cut S x k)) (cf_hd (cf_cut S x k)) x (cf_ds S x k / 256) w = cf_bar S ||| cf_othg (S 0 2) (cf_hd S) x w := by
      intro w
      rw [cf_bc_gT V G V' G' Bc hx (Or.inl hlk)]
      unfold cf_gT cf_rowg
      rw [hlk, decide_eq_true ⟨l3, rfl⟩]
      exact cf_or0 _
    have sdS : ∀ w, cf_sd S w x = cf_std (S 0 0) (S 0 1) (cf_two (S 3 x)) (cf_ds S x w % 256) := by
      intro w
      unfold cf_sd
      rw [cf_dec_st V G hx, cf_std_m]
    have path : ∀ i, i ≤ e → cf_lr (cf_may (cf_cut S x k) (cf_gT (cf_cut S x k) (cf_sp (cf_cut S x k)) (cf_hd (cf_cut S x k)) x (cf_ds S x k / 256)) (cf_sd (cf_cut S x k)) x) k (cf_ds S x k % 256) i (cf_ds S x (k + i) % 256) = true := by
      intro i
      induction i with
      | zero => intro _; exact decide_eq_true rfl
      | succ i ih =>
        intro hi
        have hvs0 : cf_vs (cf_cut S x k 0 0) (cf_cut S x k 0 1) (cf_two (cf_cut S x k 3 x)) (cf_ds S x k % 256) ∧ cf_ds S x k % 256 < 256 := by
          rw [k0, k1, k3]
          exact ⟨cf_vs_m.mpr (cf_ds_v V G hx k).1, by omega⟩
        rw [cf_lr_iff (fun s hs => (cf_lr_vs V' hvs0 i s hs).2)]
        have hlt : k + i < S 4 x := by omega
        -- the move is a step
        have hm : ∃ r', cf_mv (S 0 0) (S 0 1) (cf_two (S 3 x)) (cf_ds S x (k + i)) (S (20 + x) (k + i)) = some r' ∧ r' < 256 ∧ S (20 + x) (k + i) ≤ 4 ∧ cf_ds S x (k + (i + 1)) = cf_ds S x (k + i) / 256 * 256 + r' := by
          have hdx := (G.2.2.2.2.1 x hx (k + i) hlt).1
          have hv : cf_ds S x (k + i + 1) = (cf_dx S x (k + i)).getD (cf_ds S x (k + i)) := rfl
          cases ex : cf_dx S x (k + i) with
          | none => exact absurd ex hdx
          | some r =>
            rw [ex] at hv
            have hv : cf_ds S x (k + i + 1) = r := hv
            have ex2 := ex
            unfold cf_dx at ex2
            rw [cf_mt_in hlt] at ex2
            have hu1 := hun i (by omega)
            have hu2 := hun (i + 1) hi
            rw [← Nat.add_assoc] at hu2 ⊢
            rcases cf_aft_c hwh (cf_ds_v V G hx (k + i)).1.1 (by have := cf_mt_lt V hx (k + i); rw [cf_mt_in hlt] at this; exact this) ex2 with ⟨q1, r', q2, q3, q4⟩ | ⟨_, _, _, q4, q5⟩ | ⟨_, _, q3, _, _⟩
            · exact ⟨r', q2, q3, q1, by rw [hv]; exact q4⟩
            · omega
            · omega
        obtain ⟨r', m1, m2, m3, m4⟩ := hm
        have er : cf_ds S x (k + (i + 1)) % 256 = r' := by omega
        refine ⟨cf_ds S x (k + i) % 256, S (20 + x) (k + i), ih (by omega), by omega, cf_may_iff.mpr ⟨?_, ?_, ?_, ?_⟩⟩
        · rw [k0, k1, k3, cf_mv_m, er]; exact m1
        · have tq0 : cf_tq (cf_cut S x k 0 0) (cf_cut S x k 0 1) (cf_cut S x k 3 x) (cf_ds S x (k + i) % 256) (S (20 + x) (k + i)) = 0 := by unfold cf_tq; rw [k3, h2f]; rfl
          rw [tq0, cf_or0, hT, k0, k1, k3, ← sdS, ← cf_hd_1 h2f]
          exact (um (k + i) (by omega) (by omega)).1
        · have tq0 : cf_tq (cf_cut S x k 0 0) (cf_cut S x k 0 1) (cf_cut S x k 3 x) (cf_ds S x (k + i) % 256) (S (20 + x) (k + i)) = 0 := by unfold cf_tq; rw [k3, h2f]; rfl
          rw [tq0, cf_or0, hT, k0, k1, k3, ← sdS, ← cf_hd_1 h2f]
          exact (um (k + (i + 1)) (by omega) (by omega)).1
        · intro o ho hne
          rw [kn] at ho
          rw [k0, k1, k3, ← sdS, ← sdS, cf_bc_sd V G V' G' Bc ho hne, cf_bc_sd V G V' G' Bc ho hne]
          rcases (um (k + (i + 1)) (by omega) (by omega)).2 with q | q
          · omega
          · exact q o ho hne
    have hgp : cf_gp (cf_cut S x k) (cf_st (cf_cut S x k)) (cf_sp (cf_cut S x k)) (cf_sd (cf_cut S x k)) (cf_hd (cf_cut S x k)) x k (cf_ds S x k) (S 12 (S 6 x - 1)) (S 6 x) false e = true := by
      rw [cf_gp_iff V' (by rw [k0, k1, k3]; exact (cf_ds_v V G hx k).1)]
      refine ⟨_, path e (Nat.le_refl _), ?_⟩
      have ly : cf_ly (cf_cut S x k 0 2) (cf_st (cf_cut S x k) (k + e)) (cf_sp (cf_cut S x k) (k + e)) (S 12 (S 6 x - 1)) (S 6 x - 1) = true := by
        unfold cf_ly
        have hsp := cf_sp_first V' G' hx' nd (by rw [k6]; omega) (show cf_cut S x k 4 x ≤ k + e by rw [k4]; omega) hld
        rw [k6, k12] at hsp
        rw [decide_eq_true hsp, Bool.true_and, Bool.not_eq_true']
        refine cf_any_false (fun o ho => decide_eq_false (fun q => ?_))
        rw [cf_dec_st V' G' ho] at q
        have ow := (cf_ds_v V' G' ho (k + e)).2
        by_cases eo : o = x
        · subst eo
          rw [cf_ds_E2 (t := k) (by rw [k4]; exact Nat.le_refl _) (by omega), dk] at q
          omega
        · have := G'.2.2.2.1 x o hx' ho (fun z => eo z.symm)
          rw [cf_own6 G' hx' (by rw [k6]; omega), k6] at this
          exact this (by omega) (by omega)
      unfold cf_gl
      rw [decide_eq_true (show cf_ds S x (k + e) % 256 % 64 = S 12 (S 6 x - 1) by omega), ly, Bool.or_true]
      rfl
    have hle : n ≤ e := by
      rcases Nat.lt_or_ge e n with q | q
      · have := (cf_ff_some hn).2.2 e q
        rw [hgp] at this; cases this
      · exact q
    refine ⟨k + n + 1, by omega, ?_⟩
    have e6 : S1 6 x = S 6 x := B 6 x (by omega) (by omega) (by omega) (by omega)
    rcases cf_ds_ld V1 G1 hx1 (k + n) with ⟨_, _, _, _, q1, q2⟩ | ⟨_, q, _⟩ | ⟨q, _⟩
    · rw [q2]; omega
    · rw [hn3] at q; cases q
    · rw [cf_mt_in hn2] at q; exact absurd hn3 q
  · exact ⟨k, by omega, by rw [ds1 k (Nat.le_refl _)]; exact hlk⟩
/-- one round -/
def cf_stp (S : cf_S) (k x : Nat) : cf_S × Nat := match cf_pl (cf_cut S x k) x with
  | some S1 => (cf_pd S1 x, 1)
  | none => (cf_fte (cf_cut S x k) x 2, 0)
/-- the rounds of stop(), at most f of them -/
def cf_lp (k : Nat) : Nat → cf_S → Nat → Option (cf_S × Nat)
  | 0, _, _ => none
  | f + 1, S, n => if cf_frt S k false = 0 then some (S, n) else cf_lp k f (cf_stp S k (cf_frt S k false - 1)).1 (n + (cf_stp S k (cf_frt S k false - 1)).2)
def cf_UP (k : Nat) (S : cf_S) (P : Nat → Bool) : Prop := ∀ c, c < S 0 2 → P c = true → ∀ u, k ≤ u → u < 402 → cf_um S c u
def cf_msr (k : Nat) (S : cf_S) (P : Nat → Bool) : Nat := 49 * cf_cnt (fun c => decide (S 8 c = 0)) (S 0 2) + 7 * cf_cnt (fun c => !P c) (S 0 2) + cf_cnt (fun c => P c && cf_trb S k c) (S 0 2)
theorem cf_frt_x {S : cf_S} {k : Nat} {g : Bool} (h : ¬ cf_frt S k g = 0) : cf_frt S k g - 1 < S 0 2 ∧ decide (S 3 (cf_frt S k g - 1) = 3) = g ∧ cf_trb S k (cf_frt S k g - 1) = true := by
  obtain ⟨i, hi⟩ : ∃ i, cf_frt S k g = i + 1 := ⟨cf_frt S k g - 1, by omega⟩
  obtain ⟨h1, h2, _⟩ := cf_ff_some hi
  rw [hi, Nat.add_sub_cancel]
  rw [Bool.and_eq_true] at h2
  exact ⟨h1, eq_of_beq h2.1, h2.2⟩
theorem cf_trb_78 {S S2 : cf_S} (h : cf_r78 S S2) {k c : Nat} (h8 : S2 8 c = S 8 c) : cf_trb S2 k c = cf_trb S k c := by
  unfold cf_trb
  rw [h8, h 4 c (by omega) (by omega), cf_any_eq (fun i _ => cf_bad_78 h c (k + 1 + i))]
theorem cf_stp_ok {S : cf_S} {k x : Nat} (J : cf_Jk k S) {P : Nat → Bool} (U : cf_UP k S P) (hx : x < S 0 2) (hk : ¬ S 3 x = 3) (ht : cf_trb S k x = true) : cf_Jk k (cf_stp S k x).1 ∧ ∃ P', cf_UP k (cf_stp S k x).1 P' ∧ cf_msr k (cf_stp S k x).1 P' < cf_msr k S P := by
  obtain ⟨h8, h4⟩ := cf_trb_t ht
  have V := J.1
  have G := J.2.1
  have h6 := V.2.2.1
  unfold cf_stp
  cases hp : cf_pl (cf_cut S x k) x with
  | none =>
    dsimp only
    have J' := cf_Jk_strand J hx h4
    refine ⟨J', fun _ => false, fun c _ q => (by cases q), ?_⟩
    have hn : cf_fte (cf_cut S x k) x 2 0 2 = S 0 2 := by rw [cf_r78_fte _ _ _ 0 2 (by omega) (by omega), cf_cut_r (by omega)]
    unfold cf_msr
    rw [hn]
    have c1 : cf_cnt (fun c => decide (cf_fte (cf_cut S x k) x 2 8 c = 0)) (S 0 2) < cf_cnt (fun c => decide (S 8 c = 0)) (S 0 2) := by
      refine cf_cnt_lt (j := x) (fun i hi q => ?_) hx (decide_eq_true h8) ?_
      · have q := of_decide_eq_true q
        unfold cf_fte at q
        by_cases e : i = x
        · rw [if_pos ⟨rfl, e⟩] at q; cases q
        · rw [if_neg (fun z => e z.2), cf_cut_r (by omega)] at q
          exact decide_eq_true q
      · unfold cf_fte; rw [if_pos ⟨rfl, rfl⟩]; rfl
    have c2 := cf_cnt_le (fun c => !(fun _ => false) c) (S 0 2)
    have c3 : cf_cnt (fun c => false && cf_trb (cf_fte (cf_cut S x k) x 2) k c) (S 0 2) = 0 := by
      have : ∀ n, cf_cnt (fun c => false && cf_trb (cf_fte (cf_cut S x k) x 2) k c) n = 0 := by
        intro n
        induction n with
        | zero => rfl
        | succ n ih => unfold cf_cnt at ih ⊢; rw [cf_sum, ih]; rfl
      exact this _
    dsimp only at c2 ⊢
    omega
  | some S1 =>
    dsimp only
    obtain ⟨J1, B, V1, G1, bad1, ds1⟩ := cf_Jk_plan J hx hk h8 h4 hp
    have hn1 : S1 0 2 = S 0 2 := cf_bc_n B
    have hn : cf_pd S1 x 0 2 = S 0 2 := by rw [cf_pd_r (by omega)]; exact hn1
    have hx1 : x < S1 0 2 := by rw [hn1]; exact hx
    have e8 : ∀ c, cf_pd S1 x 8 c = S 8 c := by
      intro c
      obtain ⟨_, _, L1, _⟩ := cf_pl_some (cf_V_cut (c := x) V (Nat.le_of_lt h4)) (cf_G_cut (c := x) G h4) (by rw [cf_cut_r (by omega)]; exact hx) (cf_cut_dn G hx h4) hp
      rw [cf_pd_r (by omega), cf_lg_e L1 (by omega) (by omega), cf_cut_r (by omega)]
    have U1 : cf_UP k (cf_pd S1 x) (fun c => P c || decide (c = x)) := by
      intro c hc q u h1 h2
      rw [hn] at hc
      rw [cf_um_78 (cf_r78_pd S1 x)]
      by_cases e : c = x
      · subst e; exact cf_um_bad V1 hx1 (bad1 u h1 h2)
      · dsimp only at q
        rw [decide_eq_false e, Bool.or_false] at q
        exact cf_um_oth V G V1 G1 B hx hc e (U c hc q u h1 h2) (cf_um_bad V1 hx1 (bad1 u h1 h2))
    have tx : cf_trb (cf_pd S1 x) k x = false := by
      rw [cf_not_true]
      intro q
      unfold cf_trb at q
      rw [Bool.and_eq_true, cf_any_iff] at q
      obtain ⟨_, i, hi, q⟩ := q
      rw [cf_bad_78 (cf_r78_pd S1 x), bad1 (k + 1 + i) (by omega) (by omega)] at q
      cases q
    refine ⟨J1, fun c => P c || decide (c = x), U1, ?_⟩
    unfold cf_msr
    rw [hn]
    have c1 : cf_cnt (fun c => decide (cf_pd S1 x 8 c = 0)) (S 0 2) = cf_cnt (fun c => decide (S 8 c = 0)) (S 0 2) := cf_cnt_eq (fun i _ => by rw [e8])
    rw [c1]
    cases hPx : P x with
    | false =>
      have c2 : cf_cnt (fun c => !(P c || decide (c = x))) (S 0 2) < cf_cnt (fun c => !P c) (S 0 2) := by
        refine cf_cnt_lt (j := x) (fun i hi q => ?_) hx (by rw [hPx]; rfl) (by rw [decide_eq_true rfl, Bool.or_true]; rfl)
        cases hPi : P i with
        | false => rfl
        | true => rw [hPi] at q; cases q
      have c3 := cf_cnt_le (fun c => (P c || decide (c = x)) && cf_trb (cf_pd S1 x) k c) (S 0 2)
      dsimp only at c2 c3 ⊢
      omega
    | true =>
      have c2 : cf_cnt (fun c => !(P c || decide (c = x))) (S 0 2) = cf_cnt (fun c => !P c) (S 0 2) := by
        refine cf_cnt_eq (fun i hi => ?_)
        by_cases e : i = x
        · subst e; rw [hPx]; rfl
        · rw [decide_eq_false e, Bool.or_false]
      have c3 : cf_cnt (fun c => (P c || decide (c = x)) && cf_trb (cf_pd S1 x) k c) (S 0 2) < cf_cnt (fun c => P c && cf_trb S k c) (S 0 2) := by
        refine cf_cnt_lt (j := x) (fun i hi q => ?_) hx (by rw [hPx, ht]; rfl) (by rw [tx, Bool.and_false])
        rw [Bool.and_eq_true] at q
        by_cases e : i = x
        · subst e; rw [tx] at q; exact absurd q.2 (by decide)
        · rw [decide_eq_false e, Bool.or_false] at q
          rw [q.1, Bool.true_and]
          -- if it had no trouble before, it has none now
          apply Classical.byContradiction
          intro hno
          obtain ⟨t8, t4⟩ := cf_trb_t q.2
          rw [e8] at t8
          rw [cf_pd_r (by omega), B 4 i (by omega) (by omega) (by omega) (by omega)] at t4
          have hz : ∀ j, j < 401 - k → cf_bad S i (k + 1 + j) = false := by
            intro j hj
            rw [cf_not_true]
            intro w
            apply hno
            unfold cf_trb
            rw [decide_eq_true t8, decide_eq_true t4, cf_any_true hj w]; rfl
          have q2 := q.2
          unfold cf_trb at q2
          rw [Bool.and_eq_true, cf_any_iff] at q2
          obtain ⟨_, j, hj, q2⟩ := q2
          rw [cf_bad_78 (cf_r78_pd S1 x), cf_bad_oth V G V1 G1 B hx hi e (hz j hj) (bad1 _ (by omega) (by omega)) (cf_sooner J hx hk h8 h4 (U x hx hPx) hp _)] at q2
          cases q2
      dsimp only at c2 c3 ⊢
      omega
theorem cf_lp_ends {k : Nat} : ∀ (M : Nat) (S : cf_S) (P : Nat → Bool) (n : Nat), cf_Jk k S → cf_UP k S P → cf_msr k S P ≤ M → ∃ f r, f ≤ M + 1 ∧ cf_lp k f S n = some r
  | 0, S, P, n, J, U, h => by
    refine ⟨1, (S, n), Nat.le_refl _, ?_⟩
    rw [cf_lp]
    by_cases e : cf_frt S k false = 0
    · rw [if_pos e]
    · obtain ⟨h1, h2, h3⟩ := cf_frt_x e
      obtain ⟨_, P', _, q⟩ := cf_stp_ok J U h1 (of_decide_eq_false h2) h3
      omega
  | M + 1, S, P, n, J, U, h => by
    by_cases e : cf_frt S k false = 0
    · exact ⟨1, (S, n), by omega, by rw [cf_lp, if_pos e]⟩
    · obtain ⟨h1, h2, h3⟩ := cf_frt_x e
      obtain ⟨J', P', U', q⟩ := cf_stp_ok J U h1 (of_decide_eq_false h2) h3
      obtain ⟨f, r, hf, hr⟩ := cf_lp_ends M _ P' (n + (cf_stp S k (cf_frt S k false - 1)).2) J' U' (by omega)
      exact ⟨f + 1, r, by omega, by rw [cf_lp, if_neg e]; exact hr⟩
/-- stop() is done within 400 rounds -/
theorem cf_lp_400 {k : Nat} {S : cf_S} (J : cf_Jk k S) (n : Nat) : ∃ f r, f ≤ 400 ∧ cf_lp k f S n = some r := by
  have h6 := J.1.2.2.1
  obtain ⟨f, r, hf, hr⟩ := cf_lp_ends (k := k) 350 S (fun _ => false) n J (fun c _ q => (by cases q)) (by
    unfold cf_msr
    have c1 := cf_cnt_le (fun c => decide (S 8 c = 0)) (S 0 2)
    have c2 := cf_cnt_le (fun c => !(fun _ => false) c) (S 0 2)
    have c3 := cf_cnt_le (fun c => (fun _ => false) c && cf_trb S k c) (S 0 2)
    dsimp only at c2 c3 ⊢
    omega)
  exact ⟨f, r, by omega, hr⟩
