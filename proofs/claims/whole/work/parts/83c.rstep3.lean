/-! few of the reference: its step of all three against the class's. -/
def cf_rtc (S : cf_S) (x i m : Nat) : Bool := if cf_p0 x i = 20 then decide (m = 0) else if m = 0 then true else
  match cf_step (S 0 0) (S 0 1) (cf_sk S (cf_p0 x i)) (m - 1) with
  | none => false
  | some q => cf_fs S q
def cf_rtt (S : cf_S) (u : Nat → Nat) (x i m : Nat) : Nat := if cf_p0 x i = 20 then cf_pf (cf_gg S u) x i else if m = 0 then cf_p0 x i else
  match cf_step (S 0 0) (S 0 1) (cf_sk S (cf_p0 x i)) (m - 1) with
  | none => cf_p0 x i
  | some q => if cf_fs S q = true then cf_rk S q else cf_p0 x i
section CFT
variable {S : cf_S} {u : Nat → Nat} {x : Nat}
theorem cf_pf_open (V : cf_V S) (W : cf_FW S u) (P : cf_pp S u x) {i : Nat} (hi : i < 3) (hu : ¬ u i = 0) : cf_pf (cf_gg S u) x i < cf_rk S 64 ∧ cf_oq S u (u i - 1) (cf_sk S (cf_pf (cf_gg S u) x i)) = true ∧ cf_plc (cf_gg S u) i (cf_p0 x i) = cf_pf (cf_gg S u) x i + 1 := by
  unfold cf_pf cf_plc
  rcases (P.2 i hi).2 (by omega) with ⟨h1, h2⟩ | ⟨h1, h2, h3⟩
  · by_cases q : cf_p0 x i = 20
    · have hn := W.2.2.2.2.2.2.2
      omega
    · rw [if_neg q, if_neg q]; exact ⟨h1, h2, rfl⟩
  · rw [if_pos h1, if_pos h1]
    obtain ⟨a, b⟩ := cf_gg_sk V h2
    rw [a]
    exact ⟨b, h3, by omega⟩
theorem cf_rtt_lt (V : cf_V S) (W : cf_FW S u) (P : cf_pp S u x) {i m : Nat} (hi : i < 3) (hu : ¬ u i = 0) : cf_rtt S u x i m < cf_rk S 64 := by
  have hwh := cf_V_wh V
  have hn := W.2.2.2.2.2.2.2
  obtain ⟨o1, o2, o3⟩ := cf_pf_open V W P hi hu
  unfold cf_rtt
  by_cases q : cf_p0 x i = 20
  · rw [if_pos q]; exact o1
  · have e : cf_pf (cf_gg S u) x i = cf_p0 x i := by unfold cf_pf; rw [if_neg q]
    rw [e] at o1
    rw [if_neg q]
    by_cases z : m = 0
    · rw [if_pos z]; exact o1
    · rw [if_neg z]
      cases h : cf_step (S 0 0) (S 0 1) (cf_sk S (cf_p0 x i)) (m - 1) with
      | none => exact o1
      | some q' =>
        show (if cf_fs S q' = true then cf_rk S q' else cf_p0 x i) < _
        by_cases w : cf_fs S q' = true
        · rw [if_pos w]
          have := cf_fs_lt w
          exact cf_rk_lt (by omega) w
        · rw [if_neg w]; exact o1
/-- one cart's step: of both -/
theorem cf_rt_nx (V : cf_V S) (W : cf_FW S u) (P : cf_pp S u x) {i m a : Nat} (hi : i < 3) : cf_nxs (cf_ss S u) x i m = a + 1 ↔ cf_rtc S x i m = true ∧ (¬ u i = 0 → cf_oq S u (u i - 1) (cf_sk S (cf_rtt S u x i m)) = true) ∧ a = (if cf_p0 x i = 20 then 20 else cf_rtt S u x i m) := by
  have hwh := cf_V_wh V
  unfold cf_nxs cf_rtc cf_rtt
  by_cases q : cf_p0 x i = 20
  · rw [if_pos q, if_pos q, if_pos q, if_pos q]
    by_cases z : m = 0
    · rw [if_pos z, decide_eq_true z]
      refine ⟨fun h => ⟨rfl, fun hu => (cf_pf_open V W P hi hu).2.1, by omega⟩, fun h => by omega⟩
    · rw [if_neg z, decide_eq_false z]
      exact ⟨fun h => by omega, fun h => Bool.noConfusion h.1⟩
  · have hu : ¬ u i = 0 := fun z => q ((P.2 i hi).1 z)
    obtain ⟨o1, o2, o3⟩ := cf_pf_open V W P hi hu
    have e : cf_pf (cf_gg S u) x i = cf_p0 x i := by unfold cf_pf; rw [if_neg q]
    rw [e] at o1 o2
    rw [if_neg q, if_neg q, if_neg q, if_neg q]
    unfold cf_ss
    rw [if_neg (by omega)]
    by_cases z : m = 0
    · rw [if_pos z, if_pos z, if_pos z]
      exact ⟨fun h => ⟨rfl, fun _ => o2, by omega⟩, fun h => by omega⟩
    · rw [if_neg z, if_neg z, if_neg z]
      cases h : cf_step (S 0 0) (S 0 1) (cf_sk S (cf_p0 x i)) (m - 1) with
      | none => exact ⟨fun w => (by cases w), fun w => Bool.noConfusion w.1⟩
      | some q' =>
        show (if cf_oq S u (u i - 1) q' = true then cf_rk S q' + 1 else 0) = a + 1 ↔ cf_fs S q' = true ∧ (¬ u i = 0 → cf_oq S u (u i - 1) (cf_sk S (if cf_fs S q' = true then cf_rk S q' else cf_p0 x i)) = true) ∧ a = (if cf_fs S q' = true then cf_rk S q' else cf_p0 x i)
        by_cases w : cf_fs S q' = true
        · have lt := cf_fs_lt w
          rw [if_pos w, cf_sk_rk (by omega) w]
          by_cases w2 : cf_oq S u (u i - 1) q' = true
          · rw [if_pos w2]
            exact ⟨fun h => ⟨w, fun _ => w2, by omega⟩, fun h => by omega⟩
          · rw [if_neg w2]
            exact ⟨fun h => by omega, fun h => absurd (h.2.1 hu) w2⟩
        · have w2 : ¬ cf_oq S u (u i - 1) q' = true := fun z => w (cf_oq_fs z)
          rw [if_neg w2]
          exact ⟨fun h => by omega, fun h => absurd h.1 w⟩
/-- the places behind a step -/
theorem cf_rt_plc (V : cf_V S) (W : cf_FW S u) (P : cf_pp S u x) {i m : Nat} (hi : i < 3) (hu : ¬ u i = 0) : cf_plc (cf_gg S u) i (if cf_p0 x i = 20 then 20 else cf_rtt S u x i m) = cf_rtt S u x i m + 1 := by
  have hn := W.2.2.2.2.2.2.2
  have lt := cf_rtt_lt V W P (m := m) hi hu
  by_cases q : cf_p0 x i = 20
  · rw [if_pos q]
    have := (cf_pf_open V W P hi hu).2.2
    rw [q] at this
    rw [this]
    unfold cf_rtt
    rw [if_pos q]
  · rw [if_neg q]
    unfold cf_plc
    rw [if_neg (by omega)]
theorem cf_rt_col (V : cf_V S) (W : cf_FW S u) (P : cf_pp S u x) {i j m m' : Nat} (hi : i < 3) (hj : j < 3) : cf_col (cf_gg S u) x i (if cf_p0 x i = 20 then 20 else cf_rtt S u x i m) j (if cf_p0 x j = 20 then 20 else cf_rtt S u x j m') = false ↔ (¬ u i = 0 → ¬ u j = 0 → ¬ cf_rtt S u x j m' = cf_rtt S u x i m ∧ ¬ (cf_rtt S u x j m' = cf_pf (cf_gg S u) x i ∧ cf_rtt S u x i m = cf_pf (cf_gg S u) x j)) := by
  have ab : ∀ k mm, k < 3 → u k = 0 → cf_plc (cf_gg S u) k (if cf_p0 x k = 20 then 20 else cf_rtt S u x k mm) = 0 := fun k mm hk z => by
    rw [if_pos ((P.2 k hk).1 z)]
    unfold cf_plc cf_gg
    rw [if_pos rfl, if_pos z]
  unfold cf_col
  by_cases zi : u i = 0
  · rw [ab i m hi zi, decide_eq_false (Nat.lt_irrefl 0)]
    exact ⟨fun _ h => absurd zi h, fun _ => rfl⟩
  · by_cases zj : u j = 0
    · rw [ab j m' hj zj, decide_eq_false (Nat.lt_irrefl 0), Bool.and_false]
      exact ⟨fun _ _ h => absurd zj h, fun _ => rfl⟩
    · rw [cf_rt_plc V W P hi zi, cf_rt_plc V W P hj zj, (cf_pf_open V W P hi zi).2.2, (cf_pf_open V W P hj zj).2.2, decide_eq_true (Nat.succ_pos _), decide_eq_true (Nat.succ_pos _), Bool.true_and, Bool.true_and, Bool.or_eq_false_iff, decide_eq_false_iff_not, Bool.and_eq_false_iff, decide_eq_false_iff_not, decide_eq_false_iff_not]
      constructor
      · rintro ⟨h1, h2⟩ _ _
        refine ⟨by omega, by omega⟩
      · intro h
        have := h zi zj
        omega
/-- the number of the state behind a step -/
theorem cf_rt_ph (V : cf_V S) (W : cf_FW S u) (P : cf_pp S u x) {m : Nat → Nat} {y : Nat} (hy : ∀ i, i < 3 → cf_p0 y i = (if cf_p0 x i = 20 then 20 else cf_rtt S u x i (m i))) : cf_ph (cf_gg S u) y = 8 * (400 * cf_rtt S u x 0 (m 0) + 20 * cf_rtt S u x 1 (m 1) + cf_rtt S u x 2 (m 2)) + (cf_wt1 x 0 + 2 * cf_wt1 x 1 + 4 * cf_wt1 x 2) := by
  have hn := W.2.2.2.2.2.2.2
  have key : ∀ i, i < 3 → cf_pf (cf_gg S u) y i = cf_rtt S u x i (m i) ∧ cf_wt1 y i = cf_wt1 x i := by
    intro i hi
    have e := hy i hi
    by_cases q : cf_p0 x i = 20
    · rw [if_pos q] at e
      unfold cf_wt1 cf_rtt
      rw [if_pos e, if_pos q, if_pos q]
      unfold cf_pf
      rw [if_pos e, if_pos q]
      exact ⟨rfl, rfl⟩
    · rw [if_neg q] at e
      have hu : ¬ u i = 0 := fun z => q ((P.2 i hi).1 z)
      have lt := cf_rtt_lt V W P (m := m i) hi hu
      unfold cf_wt1 cf_pf
      rw [if_neg (by omega), if_neg (by omega), if_neg q]
      exact ⟨e, rfl⟩
  obtain ⟨a0, b0⟩ := key 0 (by omega)
  obtain ⟨a1, b1⟩ := key 1 (by omega)
  obtain ⟨a2, b2⟩ := key 2 (by omega)
  unfold cf_ph
  rw [a0, a1, a2, b0, b1, b2]
end CFT
