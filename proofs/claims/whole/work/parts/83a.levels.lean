/-! few of the reference: its states, what its levels of cost know. -/
/-- a cart's place -/
def cf_pf (g : Nat → Nat) (x i : Nat) : Nat := if cf_p0 x i = 20 then g i - 1 else cf_p0 x i
/-- the reference's number of a state -/
def cf_ph (g : Nat → Nat) (x : Nat) : Nat := 8 * (400 * cf_pf g x 0 + 20 * cf_pf g x 1 + cf_pf g x 2) + (cf_wt1 x 0 + 2 * cf_wt1 x 1 + 4 * cf_wt1 x 2)
theorem cf_wt1_c (x i : Nat) : (cf_wt1 x i = 0 ∧ cf_p0 x i = 20) ∨ (cf_wt1 x i = 1 ∧ ¬ cf_p0 x i = 20) := by
  unfold cf_wt1
  by_cases q : cf_p0 x i = 20
  · rw [if_pos q]; exact Or.inl ⟨rfl, q⟩
  · rw [if_neg q]; exact Or.inr ⟨rfl, q⟩
section CFY
variable {S : cf_S} {u : Nat → Nat}
theorem cf_pf_lt (V : cf_V S) (W : cf_FW S u) {x : Nat} (P : cf_pp S u x) {i : Nat} (hi : i < 3) : cf_pf (cf_gg S u) x i < 20 := by
  have F := cf_game V W
  have hg := F.1 i hi
  have hn := W.2.2.2.2.2.2.2
  unfold cf_pf
  by_cases q : cf_p0 x i = 20
  · rw [if_pos q]; omega
  · rw [if_neg q]
    obtain ⟨P1, P2⟩ := P.2 i hi
    by_cases z : u i = 0
    · exact absurd (P1 z) q
    · rcases P2 (by omega) with h | h
      · omega
      · exact absurd h.1 q
theorem cf_ph_c (V : cf_V S) (W : cf_FW S u) {x : Nat} (P : cf_pp S u x) : cf_ph (cf_gg S u) x < 64000 ∧ cf_ph (cf_gg S u) x % 8 = cf_wt1 x 0 + 2 * cf_wt1 x 1 + 4 * cf_wt1 x 2 ∧ cf_ph (cf_gg S u) x / 8 / 400 = cf_pf (cf_gg S u) x 0 ∧ cf_ph (cf_gg S u) x / 8 / 20 % 20 = cf_pf (cf_gg S u) x 1 ∧ cf_ph (cf_gg S u) x / 8 % 20 = cf_pf (cf_gg S u) x 2 := by
  have a := cf_pf_lt V W P (i := 0) (by omega)
  have b := cf_pf_lt V W P (i := 1) (by omega)
  have c := cf_pf_lt V W P (i := 2) (by omega)
  have d := cf_wt1_c x 0
  have e := cf_wt1_c x 1
  have f := cf_wt1_c x 2
  unfold cf_ph
  generalize cf_pf (cf_gg S u) x 0 = A at *
  generalize cf_pf (cf_gg S u) x 1 = B at *
  generalize cf_pf (cf_gg S u) x 2 = C at *
  generalize cf_wt1 x 0 = D at *
  generalize cf_wt1 x 1 = E at *
  generalize cf_wt1 x 2 = F at *
  omega
theorem cf_ph_inj (V : cf_V S) (W : cf_FW S u) {x y : Nat} (P : cf_pp S u x) (Q : cf_pp S u y) (e : cf_ph (cf_gg S u) x = cf_ph (cf_gg S u) y) : x = y := by
  obtain ⟨_, x1, x2, x3, x4⟩ := cf_ph_c V W P
  obtain ⟨_, y1, y2, y3, y4⟩ := cf_ph_c V W Q
  rw [e] at x1 x2 x3 x4
  have key : ∀ i, i < 3 → cf_wt1 x i = cf_wt1 y i → cf_pf (cf_gg S u) x i = cf_pf (cf_gg S u) y i → cf_p0 x i = cf_p0 y i := by
    intro i hi h1 h2
    rcases cf_wt1_c x i with ⟨a1, a2⟩ | ⟨a1, a2⟩ <;> rcases cf_wt1_c y i with ⟨b1, b2⟩ | ⟨b1, b2⟩
    · omega
    · omega
    · omega
    · unfold cf_pf at h2
      rw [if_neg a2, if_neg b2] at h2; exact h2
  have d := cf_wt1_c x 0
  have d' := cf_wt1_c x 1
  have d'' := cf_wt1_c x 2
  have f := cf_wt1_c y 0
  have f' := cf_wt1_c y 1
  have f'' := cf_wt1_c y 2
  have k0 := key 0 (by omega) (by omega) (by omega)
  have k1 := key 1 (by omega) (by omega) (by omega)
  have k2 := key 2 (by omega) (by omega) (by omega)
  rw [cf_p0_x P.1, cf_p0_x Q.1, k0, k1, k2]
theorem cf_ph_end (V : cf_V S) (W : cf_FW S u) {x : Nat} (P : cf_pp S u x) : cf_ph (cf_gg S u) x % 8 = 0 ↔ x = 9260 := by
  obtain ⟨_, x1, _⟩ := cf_ph_c V W P
  rw [x1]
  have d := cf_wt1_c x 0
  have d' := cf_wt1_c x 1
  have d'' := cf_wt1_c x 2
  constructor
  · intro h
    rw [cf_p0_x P.1]; omega
  · intro h
    subst h
    have e0 : cf_p0 9260 0 = 20 := rfl
    have e1 : cf_p0 9260 1 = 20 := rfl
    have e2 : cf_p0 9260 2 = 20 := rfl
    omega
end CFY
/-- what the levels know: c costs, e those that are settled, X the one that is being spread, v the level -/
def cf_D3 (S : cf_S) (u : Nat → Nat) (s0 : Nat) (c : Nat → Nat) (e : Nat → Bool) (X v : Nat) : Prop :=
  (∀ k, k < 64000 → c k ≤ 1000000 ∧ (c k < 1000000 → c k ≤ 3 * cf_cnt e 64000 ∧ ∃ x, cf_pp S u x ∧ cf_ph (cf_gg S u) x = k ∧ cf_Re (cf_gg S u) (cf_ss S u) s0 x (c k)) ∧ (e k = true → c k < 1000000 ∧ c k ≤ v) ∧ (e k = false → c k < 1000000 → v ≤ c k))
  ∧ (∀ x, cf_pp S u x → e (cf_ph (cf_gg S u) x) = true → ¬ x = X → ∀ y w, cf_Ed (cf_gg S u) (cf_ss S u) x y w → c (cf_ph (cf_gg S u) y) ≤ c (cf_ph (cf_gg S u) x) + w)
  ∧ c (cf_ph (cf_gg S u) s0) = 0 ∧ cf_pp S u s0
def cf_mn (c : Nat → Nat) (k n : Nat) : Nat → Nat := fun j => if j = k then min (c k) n else c j
theorem cf_mn_le (c : Nat → Nat) (k n j : Nat) : cf_mn c k n j ≤ c j := by
  unfold cf_mn; split
  · rename_i q; subst q; omega
  · omega
theorem cf_mn_at (c : Nat → Nat) (k n : Nat) : cf_mn c k n k ≤ n := by unfold cf_mn; rw [if_pos rfl]; omega
theorem cf_mn_ne {c : Nat → Nat} {k n j : Nat} (h : ¬ j = k) : cf_mn c k n j = c j := if_neg h
section CFD
variable {S : cf_S} {u : Nat → Nat} {s0 X v : Nat} {c : Nat → Nat} {e : Nat → Bool}
theorem cf_D3_path (V : cf_V S) (W : cf_FW S u) (D : cf_D3 S u s0 c e X v) (hX : 9261 ≤ X) : ∀ k y m, cf_Rc (cf_gg S u) (cf_ss S u) s0 k y m → cf_pp S u y ∧ (c (cf_ph (cf_gg S u) y) ≤ m ∨ ∃ j, j < 64000 ∧ e j = false ∧ c j < 1000000 ∧ c j ≤ m)
  | 0, y, m, h => by
    obtain ⟨rfl, rfl⟩ := h
    exact ⟨D.2.2.2, Or.inl (by have := D.2.2.1; omega)⟩
  | k + 1, y, m, h => by
    obtain ⟨z, w, m', h1, h2, h3⟩ := h
    obtain ⟨i1, i2⟩ := cf_D3_path V W D hX k z m' h1
    have Py := cf_pp_ed V W i1 h2
    have ly := (cf_ph_c V W Py).1
    have lz := (cf_ph_c V W i1).1
    refine ⟨Py, ?_⟩
    rcases i2 with i2 | ⟨j, j1, j2, j3, j4⟩
    · by_cases q : c (cf_ph (cf_gg S u) z) < 1000000
      · cases he : e (cf_ph (cf_gg S u) z) with
        | true =>
          have := D.2.1 z i1 he (by have := i1.1; omega) y w h2
          left; omega
        | false => exact Or.inr ⟨_, lz, he, q, by omega⟩
      · left
        have := (D.1 _ ly).1
        omega
    · exact Or.inr ⟨j, j1, j2, j3, by omega⟩
theorem cf_D3_none (V : cf_V S) (W : cf_FW S u) (D : cf_D3 S u s0 c e X v) (hX : 9261 ≤ X) (h : ∀ j, j < 64000 → e j = false → ¬ c j < 1000000) (hz : ∀ j, j < 64000 → e j = true → ¬ j % 8 = 0) : ∀ m, ¬ cf_Re (cf_gg S u) (cf_ss S u) s0 9260 m := by
  have cl := cf_cnt_le e 64000
  have key : ∀ k y m, cf_Rc (cf_gg S u) (cf_ss S u) s0 k y m → cf_pp S u y ∧ e (cf_ph (cf_gg S u) y) = true := by
    intro k
    induction k with
    | zero =>
      rintro y m ⟨rfl, rfl⟩
      refine ⟨D.2.2.2, ?_⟩
      cases he : e (cf_ph (cf_gg S u) y) with
      | true => rfl
      | false => exact absurd (by have := D.2.2.1; omega) (h _ (cf_ph_c V W D.2.2.2).1 he)
    | succ k ih =>
      rintro y m ⟨z, w, m', h1, h2, h3⟩
      obtain ⟨i1, i2⟩ := ih z m' h1
      have Py := cf_pp_ed V W i1 h2
      refine ⟨Py, ?_⟩
      have a := D.2.1 z i1 i2 (by have := i1.1; omega) y w h2
      have b := (D.1 _ (cf_ph_c V W i1).1)
      have b1 := b.2.2.1 i2
      have b2 := (b.2.1 b1.1).1
      have w3 := (cf_Ed_lt (cf_game V W) i1.1 h2).2
      cases he : e (cf_ph (cf_gg S u) y) with
      | true => rfl
      | false => exact absurd (by omega) (h _ (cf_ph_c V W Py).1 he)
  rintro m ⟨k, hm⟩
  obtain ⟨a, b⟩ := key k 9260 m hm
  exact hz _ (cf_ph_c V W a).1 b ((cf_ph_end V W a).mpr rfl)
/-- a better cost -/
theorem cf_D3_mn (V : cf_V S) (W : cf_FW S u) (D : cf_D3 S u s0 c e X v) (PX : cf_pp S u X) (hX : e (cf_ph (cf_gg S u) X) = true) (hv : c (cf_ph (cf_gg S u) X) = v) (hb : v + 3 ≤ 3 * cf_cnt e 64000) {y w : Nat} (E : cf_Ed (cf_gg S u) (cf_ss S u) X y w) : cf_D3 S u s0 (cf_mn c (cf_ph (cf_gg S u) y) (v + w)) e X v := by
  have Py := cf_pp_ed V W PX E
  have w3 := (cf_Ed_lt (cf_game V W) PX.1 E).2
  obtain ⟨D1, D2, D3, D4⟩ := D
  have same : ∀ j, j < 64000 → e j = true → cf_mn c (cf_ph (cf_gg S u) y) (v + w) j = c j := fun j hj he => by
    have := (D1 j hj).2.2.1 he
    unfold cf_mn
    split
    · rename_i q; subst q; omega
    · rfl
  refine ⟨fun k hk => ?_, fun x Px he hne y' w' E' => ?_, ?_, D4⟩
  · obtain ⟨d1, d2, d3, d4⟩ := D1 k hk
    have le := cf_mn_le c (cf_ph (cf_gg S u) y) (v + w) k
    refine ⟨by omega, fun h => ?_, fun he => ?_, fun he h => ?_⟩
    · by_cases q : cf_mn c (cf_ph (cf_gg S u) y) (v + w) k = c k
      · rw [q] at h ⊢; exact d2 h
      · have hk2 : k = cf_ph (cf_gg S u) y := Classical.byContradiction fun z => q (cf_mn_ne z)
        have ek : cf_mn c (cf_ph (cf_gg S u) y) (v + w) k = v + w := by
          subst hk2
          unfold cf_mn at q ⊢
          rw [if_pos rfl] at q ⊢; omega
        rw [ek]
        refine ⟨by omega, y, Py, hk2.symm, ?_⟩
        obtain ⟨x, x1, x2, x3⟩ := ((D1 _ (cf_ph_c V W PX).1).2.1 ((D1 _ (cf_ph_c V W PX).1).2.2.1 hX).1).2
        have := cf_ph_inj V W x1 PX x2
        subst this
        rw [hv] at x3
        exact cf_Re_st x3 E
    · rw [same k hk he]; exact d3 he
    · unfold cf_mn at h ⊢
      by_cases q : k = cf_ph (cf_gg S u) y
      · rw [if_pos q] at h ⊢
        rw [← q] at h ⊢
        by_cases z : c k < 1000000
        · have := d4 he z; omega
        · omega
      · rw [if_neg q] at h ⊢; exact d4 he h
  · have := D2 x Px he hne y' w' E'
    have le := cf_mn_le c (cf_ph (cf_gg S u) y) (v + w) (cf_ph (cf_gg S u) y')
    rw [same _ (cf_ph_c V W Px).1 he]; omega
  · have le := cf_mn_le c (cf_ph (cf_gg S u) y) (v + w) (cf_ph (cf_gg S u) s0)
    omega
/-- one more is settled -/
theorem cf_D3_set (V : cf_V S) (W : cf_FW S u) (D : cf_D3 S u s0 c e 9261 v) {k : Nat} (hk : k < 64000) (he : e k = false) (hc : c k = v) (hv : v < 1000000) : ∃ x, cf_pp S u x ∧ cf_ph (cf_gg S u) x = k ∧ cf_D3 S u s0 c (cf_pu e k) x v ∧ cf_cnt (cf_pu e k) 64000 = cf_cnt e 64000 + 1 ∧ v + 3 ≤ 3 * cf_cnt (cf_pu e k) 64000 := by
  obtain ⟨D1, D2, D3, D4⟩ := D
  have hcnt := cf_cnt_pu he (n := 64000)
  rw [if_pos hk] at hcnt
  obtain ⟨b, x, x1, x2, x3⟩ := (D1 k hk).2.1 (by omega)
  refine ⟨x, x1, x2, ⟨fun j hj => ?_, fun z Pz hz hne y w E => ?_, D3, D4⟩, hcnt, by omega⟩
  · obtain ⟨d1, d2, d3, d4⟩ := D1 j hj
    refine ⟨d1, fun h => ⟨by have := (d2 h).1; omega, (d2 h).2⟩, fun h => ?_, fun h => ?_⟩
    · by_cases q : j = k
      · subst q; omega
      · rw [cf_pu_ne q] at h; exact d3 h
    · by_cases q : j = k
      · subst q; rw [cf_pu_eq] at h; cases h
      · rw [cf_pu_ne q] at h; exact d4 h
  · by_cases q : cf_ph (cf_gg S u) z = k
    · exfalso
      exact hne (cf_ph_inj V W Pz x1 (by rw [q, x2]))
    · rw [cf_pu_ne q] at hz
      exact D2 z Pz hz (by have := Pz.1; omega) y w E
end CFD
