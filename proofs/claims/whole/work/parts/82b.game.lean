/-! few: what is known of the seats and steps. -/
def cf_FW (S : cf_S) (u : Nat → Nat) : Prop := (∀ i, i < 3 → u i ≤ S 0 2) ∧ 0 < u 0 ∧ 0 < u 1 ∧ ¬ u 0 = u 1 ∧ ¬ u 2 = u 0 ∧ ¬ u 2 = u 1 ∧ (∀ i, i < 3 → 0 < u i → S 3 (u i - 1) ≤ 1 ∧ S 9 (u i - 1) / 256 = 0 ∧ 0 < S 5 (u i - 1) ∧ S 6 (u i - 1) = 0) ∧ cf_rk S 64 ≤ 20
theorem cf_fs_lt {S : cf_S} {q : Nat} (h : cf_fs S q = true) : q < S 0 0 * S 0 1 := by
  unfold cf_fs at h
  rw [Bool.and_eq_true, decide_eq_true_iff] at h; exact h.1
theorem cf_oq_fs {S : cf_S} {u : Nat → Nat} {c q : Nat} (h : cf_oq S u c q = true) : cf_fs S q = true := by
  unfold cf_oq at h
  rw [Bool.and_eq_true, Bool.and_eq_true] at h; exact h.1.1
theorem cf_of_has {S : cf_S} (V : cf_V S) {u : Nat → Nat} {c q : Nat} : cf_has (cf_of (cf_oq S u c)) q = cf_oq S u c q := by
  have hwh := cf_V_wh V
  rw [cf_has_of]
  cases h : cf_oq S u c q with
  | false => rw [Bool.and_false]
  | true =>
    have := cf_fs_lt (cf_oq_fs h)
    rw [decide_eq_true (by omega)]; rfl
theorem cf_of_in {S : cf_S} (V : cf_V S) {u : Nat → Nat} {c : Nat} : cf_in (S 0 0) (S 0 1) (cf_of (cf_oq S u c)) := fun q hq => by
  rw [cf_of_has V] at hq
  exact cf_fs_lt (cf_oq_fs hq)
section CFZ
variable {S : cf_S} {u : Nat → Nat}
theorem cf_goal_lt (V : cf_V S) {c : Nat} (hc : c < S 0 2) (h : 0 < S 5 c) : S 5 c - 1 < S 0 0 * S 0 1 := by
  have := (V.2.2.2.2.2.2.1 c hc).2.2.2.2.1
  omega
theorem cf_fl_e (S : cf_S) (u : Nat → Nat) (c : Nat) : cf_fl S u c = cf_fld (S 0 0) (S 0 1) (cf_bt (S 5 c - 1)) (cf_of (cf_oq S u c)) := rfl
/-- a step to and fro -/
theorem cf_hq_adj (V : cf_V S) {c p q d : Nat} (hc : c < S 0 2) (h5 : 0 < S 5 c) (hd : d < 4) (hp : p < S 0 0 * S 0 1) (e : cf_step (S 0 0) (S 0 1) p d = some q) (op : cf_oq S u c p = true) (h : cf_hq (cf_fl S u c) q ≤ 63) : cf_hq (cf_fl S u c) p ≤ 63 ∧ cf_hq (cf_fl S u c) p ≤ cf_hq (cf_fl S u c) q + 1 := by
  have hwh := cf_V_wh V
  have hg := cf_goal_lt V hc h5
  have hb := cf_of_in V (u := u) (c := c)
  have h1 := cf_hq_at h
  revert h h1
  generalize cf_hq (cf_fl S u c) q = N
  intro h h1
  rw [cf_fl_e, cf_fld_rn hwh hb (by omega)] at h1
  have h2 : cf_has (cf_fl S u c (N + 1)) p = true := by
    rw [cf_fl_e, cf_fld_rn hwh hb (by omega)]
    exact ⟨by rw [cf_of_has V]; exact op, Or.inr ⟨d, q, hd, e, h1⟩⟩
  have h4 : ∀ n, n = 63 → cf_has (cf_fl S u c n) p = true := fun n hn => by
    rw [cf_fl_e] at h2 ⊢
    have := cf_fld_63 hwh hb (by omega) h2
    rw [hn]; exact this
  have h3 : ∀ n, n = 63 → cf_hq (cf_fl S u c) p ≤ n := fun n hn => cf_hq_le (by omega) (h4 n hn)
  have h3 := h3 63 rfl
  refine ⟨h3, ?_⟩
  by_cases z : N + 1 < 64
  · exact cf_hq_le z h2
  · omega
theorem cf_hq_op (V : cf_V S) {c q : Nat} (hc : c < S 0 2) (h5 : 0 < S 5 c) (h : cf_hq (cf_fl S u c) q ≤ 63) : cf_oq S u c q = true := by
  have hwh := cf_V_wh V
  have hg := cf_goal_lt V hc h5
  have h1 := cf_hq_at h
  unfold cf_fl at h1
  rw [cf_fld_rn hwh (cf_of_in V) (by omega)] at h1
  generalize cf_hq (cf_fld (S 0 0) (S 0 1) (cf_bt (S 5 c - 1)) (cf_of (cf_oq S u c))) q = N at h1
  have := cf_rn_op h1
  rw [cf_of_has V] at this; exact this
theorem cf_hq_goal (V : cf_V S) {c : Nat} (hc : c < S 0 2) (h5 : 0 < S 5 c) (h : cf_oq S u c (S 5 c - 1) = true) : cf_hq (cf_fl S u c) (S 5 c - 1) = 0 := by
  have hwh := cf_V_wh V
  have hg := cf_goal_lt V hc h5
  have : cf_has (cf_fl S u c 0) (S 5 c - 1) = true := by
    show cf_has (cf_bt (S 5 c - 1) &&& cf_of (cf_oq S u c)) _ = true
    rw [cf_hand, cf_of_has V, h, cf_hbt, decide_eq_true (by omega), decide_eq_true rfl]; rfl
  have := cf_hq_le (by omega) this
  omega
theorem cf_hh_in {i p : Nat} (hp : ¬ p = 20) (hu : ¬ u i = 0) (hn : p < cf_rk S 64) : cf_hh S u i p = cf_hq (cf_fl S u (u i - 1)) (cf_sk S p) := by
  unfold cf_hh
  rw [if_neg hp, if_neg (by omega)]
/-- one step -/
theorem cf_ss_c {i p m a : Nat} (h : cf_ss S u i p m = a + 1) : ¬ u i = 0 ∧ p < cf_rk S 64 ∧ ((m = 0 ∧ a = p) ∨ (0 < m ∧ ∃ q, cf_step (S 0 0) (S 0 1) (cf_sk S p) (m - 1) = some q ∧ cf_oq S u (u i - 1) q = true ∧ a = cf_rk S q)) := by
  unfold cf_ss at h
  by_cases z : u i = 0 ∨ ¬ p < cf_rk S 64
  · rw [if_pos z] at h; omega
  · rw [if_neg z] at h
    refine ⟨by omega, by omega, ?_⟩
    by_cases z2 : m = 0
    · rw [if_pos z2] at h; exact Or.inl ⟨z2, by omega⟩
    · rw [if_neg z2] at h
      cases e : cf_step (S 0 0) (S 0 1) (cf_sk S p) (m - 1) with
      | none => rw [e] at h; cases h
      | some q =>
        rw [e] at h
        have h : (if cf_oq S u (u i - 1) q = true then cf_rk S q + 1 else 0) = a + 1 := h
        by_cases z3 : cf_oq S u (u i - 1) q = true
        · rw [if_pos z3] at h
          exact Or.inr ⟨by omega, q, rfl, z3, by omega⟩
        · rw [if_neg z3] at h; cases h
theorem cf_gg_c {i : Nat} (h : 0 < cf_gg S u i) : ¬ u i = 0 ∧ cf_fs S (S 5 (u i - 1) - 1) = true ∧ cf_gg S u i = cf_rk S (S 5 (u i - 1) - 1) + 1 := by
  unfold cf_gg at h ⊢
  by_cases z : u i = 0
  · rw [if_pos z] at h; omega
  · rw [if_neg z] at h ⊢
    by_cases z2 : cf_fs S (S 5 (u i - 1) - 1) = true
    · rw [if_pos z2] at h ⊢; exact ⟨z, z2, rfl⟩
    · rw [if_neg z2] at h; omega
theorem cf_gg_sk (V : cf_V S) {i : Nat} (h : 0 < cf_gg S u i) : cf_sk S (cf_gg S u i - 1) = S 5 (u i - 1) - 1 ∧ cf_gg S u i - 1 < cf_rk S 64 := by
  have hwh := cf_V_wh V
  obtain ⟨h1, h2, h3⟩ := cf_gg_c h
  have := cf_fs_lt h2
  rw [h3, Nat.add_sub_cancel]
  exact ⟨cf_sk_rk (by omega) h2, cf_rk_lt (by omega) h2⟩
theorem cf_game (V : cf_V S) (W : cf_FW S u) : cf_GF (cf_gg S u) (cf_ss S u) (cf_hh S u) := by
  have hwh := cf_V_wh V
  have hn := W.2.2.2.2.2.2.2
  have wc := W.2.2.2.2.2.2.1
  have hu := W.1
  have goal : ∀ i, i < 3 → ¬ u i = 0 → u i - 1 < S 0 2 ∧ 0 < S 5 (u i - 1) := fun i hi z => ⟨by have := hu i hi; omega, (wc i hi (by omega)).2.2.1⟩
  refine ⟨fun i hi => ?_, fun i p m hi hp hm => ?_, fun i hi => if_pos rfl, fun i p hi hp => ?_, fun i p m q hi hp hm h1 h2 => ?_, fun i hi h1 h2 => ?_⟩
  · rcases Nat.eq_zero_or_pos (cf_gg S u i) with z | z
    · omega
    · have := (cf_gg_sk V z).2; omega
  · cases h : cf_ss S u i p m with
    | zero => omega
    | succ a =>
      obtain ⟨b1, b2, b3⟩ := cf_ss_c h
      rcases b3 with ⟨_, b3⟩ | ⟨_, q, b4, b5, b6⟩
      · omega
      · have := cf_fs_lt (cf_oq_fs b5)
        have := cf_rk_lt (show q < 64 by omega) (cf_oq_fs b5)
        omega
  · unfold cf_hh
    by_cases z : p = 20
    · rw [if_pos z]; omega
    · rw [if_neg z]
      by_cases z2 : u i = 0 ∨ ¬ p < cf_rk S 64
      · rw [if_pos z2]; exact Or.inr rfl
      · rw [if_neg z2]; exact cf_hq_or _ _
  · obtain ⟨b1, b2, b3⟩ := cf_ss_c h2
    rcases b3 with ⟨_, b3⟩ | ⟨b0, q', b4, b5, b6⟩
    · subst b3; omega
    · obtain ⟨g1, g2⟩ := goal i hi b1
      have l1 := cf_fs_lt (cf_oq_fs b5)
      have l2 := cf_rk_lt (show q' < 64 by omega) (cf_oq_fs b5)
      obtain ⟨k1, k2, k3⟩ := cf_sk_ok b2
      have k4 := cf_fs_lt k2
      rw [cf_hh_in (by omega) b1 b2] at h1 ⊢
      rw [cf_hh_in (by omega) b1 (by omega), b6, cf_sk_rk (by omega) (cf_oq_fs b5)]
      have inv := cf_step_inv (d := m - 1) (by omega) k4 b4
      have a1 := cf_hq_adj V (u := u) g1 g2 (d := cf_opp (m - 1)) (by unfold cf_opp; omega) l1 inv b5 h1
      have a2 := cf_hq_adj V (u := u) g1 g2 (d := m - 1) (by omega) k4 b4 (cf_hq_op V g1 g2 h1) a1.1
      omega
  · obtain ⟨b1, b2⟩ := cf_gg_sk V h1
    have b0 := (cf_gg_c h1).1
    obtain ⟨g1, g2⟩ := goal i hi b0
    rw [cf_hh_in (by omega) b0 b2, b1] at h2 ⊢
    exact cf_hq_goal V g1 g2 (cf_hq_op V g1 g2 h2)
/-- places where the carts may be -/
def cf_pp (S : cf_S) (u : Nat → Nat) (x : Nat) : Prop := x < 9261 ∧ ∀ i, i < 3 → (u i = 0 → cf_p0 x i = 20) ∧ (0 < u i → (cf_p0 x i < cf_rk S 64 ∧ cf_oq S u (u i - 1) (cf_sk S (cf_p0 x i)) = true) ∨ (cf_p0 x i = 20 ∧ 0 < cf_gg S u i ∧ cf_oq S u (u i - 1) (S 5 (u i - 1) - 1) = true))
theorem cf_pp_nx (V : cf_V S) (W : cf_FW S u) {x : Nat} (P : cf_pp S u x) {i m a : Nat} (hi : i < 3) (hm : m < 5) (e : cf_nxs (cf_ss S u) x i m = a + 1) : (u i = 0 → a = 20) ∧ (0 < u i → (a < cf_rk S 64 ∧ cf_oq S u (u i - 1) (cf_sk S a) = true) ∨ (a = 20 ∧ 0 < cf_gg S u i ∧ cf_oq S u (u i - 1) (S 5 (u i - 1) - 1) = true)) := by
  have hwh := cf_V_wh V
  obtain ⟨P1, P2⟩ := P.2 i hi
  unfold cf_nxs at e
  by_cases q : cf_p0 x i = 20
  · rw [if_pos q] at e
    have : a = 20 := by split at e <;> omega
    subst this
    refine ⟨fun _ => rfl, fun z => ?_⟩
    have hn := W.2.2.2.2.2.2.2
    rcases P2 z with ⟨z1, z2⟩ | ⟨_, z2⟩
    · omega
    · exact Or.inr ⟨rfl, z2⟩
  · rw [if_neg q] at e
    obtain ⟨b1, b2, b3⟩ := cf_ss_c e
    refine ⟨fun z => absurd z b1, fun z => Or.inl ?_⟩
    rcases b3 with ⟨_, b3⟩ | ⟨b0, q', b4, b5, b6⟩
    · subst b3
      rcases P2 z with h | ⟨h, _⟩
      · exact h
      · exact absurd h q
    · have l1 := cf_fs_lt (cf_oq_fs b5)
      have l2 := cf_rk_lt (show q' < 64 by omega) (cf_oq_fs b5)
      rw [b6, cf_sk_rk (by omega) (cf_oq_fs b5)]
      exact ⟨l2, b5⟩
theorem cf_pp_ed (V : cf_V S) (W : cf_FW S u) {x y w : Nat} (P : cf_pp S u x) (E : cf_Ed (cf_gg S u) (cf_ss S u) x y w) : cf_pp S u y := by
  have F := cf_game V W
  refine ⟨(cf_Ed_lt F P.1 E).1, ?_⟩
  rcases E with ⟨i, hi, e1, e, rfl⟩ | ⟨m0, m1, m2, a, b, c, h0, h1, h2, e0, e1, e2, _, _, _, e, rfl⟩
  · obtain ⟨_, d1, d2⟩ := cf_p0_dn P.1 hi
    rw [← e] at d1 d2
    have hg : 0 < cf_gg S u i := by omega
    intro j hj
    by_cases q : j = i
    · subst q
      refine ⟨fun z => absurd z (cf_gg_c hg).1, fun z => Or.inr ⟨d1, hg, ?_⟩⟩
      have lt := F.1 j hj
      rcases (P.2 j hj).2 z with ⟨_, z2⟩ | ⟨z1, _⟩
      · rw [show cf_p0 x j = cf_gg S u j - 1 by omega, (cf_gg_sk V hg).1] at z2; exact z2
      · omega
    · rw [d2 j hj q]; exact P.2 j hj
  · obtain ⟨p0, p1, p2⟩ := cf_p0_mk (cf_nxs_lt F (by omega) h0 e0) (cf_nxs_lt F (by omega) h1 e1) (cf_nxs_lt F (by omega) h2 e2)
    rw [← e] at p0 p1 p2
    intro i hi
    match i, hi with
    | 0, _ => rw [p0]; exact cf_pp_nx V W P (by omega) h0 e0
    | 1, _ => rw [p1]; exact cf_pp_nx V W P (by omega) h1 e1
    | 2, _ => rw [p2]; exact cf_pp_nx V W P (by omega) h2 e2
theorem cf_pp_Rc (V : cf_V S) (W : cf_FW S u) {s0 : Nat} (P : cf_pp S u s0) : ∀ k x n, cf_Rc (cf_gg S u) (cf_ss S u) s0 k x n → cf_pp S u x
  | 0, x, n, h => by rw [h.1]; exact P
  | k + 1, x, n, ⟨y, w, m, h1, h2, _⟩ => cf_pp_ed V W (cf_pp_Rc V W P k y m h1) h2
/-- a cart that can't reach its END SQUARE alone -/
theorem cf_far_no (V : cf_V S) (W : cf_FW S u) {s0 : Nat} (P : cf_pp S u s0) (h : ¬ cf_h3 (cf_hh S u) s0 < 1000000) : ∀ m, ¬ cf_Re (cf_gg S u) (cf_ss S u) s0 9260 m := by
  have hwh := cf_V_wh V
  have F := cf_game V W
  have hu := W.1
  have wc := W.2.2.2.2.2.2.1
  have ex : ∃ i, i < 3 ∧ cf_hh S u i (cf_p0 s0 i) = 1000000 := by
    apply Classical.byContradiction
    intro z
    have a : ∀ i, i < 3 → cf_hh S u i (cf_p0 s0 i) ≤ 63 := fun i hi => by
      rcases F.2.2.2.1 i (cf_p0 s0 i) hi (by have := cf_p0_lt s0 i; omega) with q | q
      · exact q
      · exact absurd ⟨i, hi, q⟩ z
    have a0 := a 0 (by omega)
    have a1 := a 1 (by omega)
    have a2 := a 2 (by omega)
    unfold cf_h3 at h
    omega
  obtain ⟨i, hi, hf⟩ := ex
  have key : ∀ k x n, cf_Rc (cf_gg S u) (cf_ss S u) s0 k x n → cf_hh S u i (cf_p0 x i) = 1000000 := by
    intro k
    induction k with
    | zero => rintro x n ⟨rfl, _⟩; exact hf
    | succ k ih =>
      rintro x n ⟨y, w, m, h1, h2, _⟩
      have hy := ih y m h1
      have Py := cf_pp_Rc V W P k y m h1
      have n20 : ¬ cf_p0 y i = 20 := fun z => by rw [z, F.2.2.1 i hi] at hy; omega
      have key2 : ∀ m a, m < 5 → cf_nxs (cf_ss S u) y i m = a + 1 → cf_hh S u i a = 1000000 := by
        intro m a hm e
        have ea := e
        unfold cf_nxs at e
        rw [if_neg n20] at e
        obtain ⟨b1, b2, b3⟩ := cf_ss_c e
        rcases b3 with ⟨_, b3⟩ | ⟨b0, q', b4, b5, b6⟩
        · rw [b3]; exact hy
        · have l1 := cf_fs_lt (cf_oq_fs b5)
          have l2 := cf_rk_lt (show q' < 64 by omega) (cf_oq_fs b5)
          have hn := W.2.2.2.2.2.2.2
          obtain ⟨k1, k2, k3⟩ := cf_sk_ok b2
          rcases F.2.2.2.1 i a hi (by omega) with z | z
          · exfalso
            rw [cf_hh_in (by omega) b1 (by omega), b6, cf_sk_rk (by omega) (cf_oq_fs b5)] at z
            have op : cf_oq S u (u i - 1) (cf_sk S (cf_p0 y i)) = true := by
              rcases (Py.2 i hi).2 (by omega) with ⟨_, q⟩ | ⟨q, _⟩
              · exact q
              · exact absurd q n20
            have := cf_hq_adj V (u := u) (c := u i - 1) (by have := hu i hi; omega) (wc i hi (by omega)).2.2.1 (d := m - 1) (by omega) (cf_fs_lt k2) b4 op z
            rw [cf_hh_in n20 b1 b2] at hy
            omega
          · exact z
      rcases h2 with ⟨j, hj, e1, e, rfl⟩ | ⟨m0, m1, m2, a, b, c, h0, h1', h2, e0, e1, e2, _, _, _, e, rfl⟩
      · obtain ⟨_, d1, d2⟩ := cf_p0_dn Py.1 hj
        rw [← e] at d1 d2
        by_cases q : i = j
        · subst q
          exfalso
          have hg : 0 < cf_gg S u i := by omega
          obtain ⟨g1, g2⟩ := cf_gg_sk V hg
          have g0 := (cf_gg_c hg).1
          have hn := W.2.2.2.2.2.2.2
          rw [show cf_p0 y i = cf_gg S u i - 1 by omega] at hy n20
          rcases (Py.2 i hi).2 (by omega) with ⟨_, z⟩ | ⟨z, _⟩
          · rw [show cf_p0 y i = cf_gg S u i - 1 by omega, g1] at z
            rw [cf_hh_in n20 g0 g2, g1, cf_hq_goal V (by have := hu i hi; omega) (wc i hi (by omega)).2.2.1 z] at hy
            omega
          · omega
        · rw [d2 i hi q]; exact hy
      · obtain ⟨p0, p1, p2⟩ := cf_p0_mk (cf_nxs_lt F (by omega) h0 e0) (cf_nxs_lt F (by omega) h1' e1) (cf_nxs_lt F (by omega) h2 e2)
        rw [← e] at p0 p1 p2
        match i, hi with
        | 0, _ => rw [p0]; exact key2 m0 a h0 e0
        | 1, _ => rw [p1]; exact key2 m1 b h1' e1
        | 2, _ => rw [p2]; exact key2 m2 c h2 e2
  rintro m ⟨k, hm⟩
  have := key k 9260 m hm
  have z := F.2.2.1 i hi
  have e20 : cf_p0 9260 i = 20 := by
    match i, hi with
    | 0, _ => rfl
    | 1, _ => rfl
    | 2, _ => rfl
  rw [e20, z] at this; omega
end CFZ
