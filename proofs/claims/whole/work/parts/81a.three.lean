/-! few: three carts at once. A state is three seats (20: done); what leads from one to the next; what the class's search knows. -/
def cf_p0 (x : Nat) : Nat → Nat
  | 0 => x % 21
  | 1 => x / 21 % 21
  | _ => x / 441 % 21
def cf_pw : Nat → Nat
  | 0 => 1
  | 1 => 21
  | _ => 441
/-- the next seat and 1, or 0; st: the steps of each cart -/
def cf_nxs (st : Nat → Nat → Nat → Nat) (x i m : Nat) : Nat := if cf_p0 x i = 20 then (if m = 0 then 21 else 0) else st i (cf_p0 x i) m
/-- the place and 1; g: the END SQUARES' seats and 1 -/
def cf_plc (g : Nat → Nat) (i p : Nat) : Nat := if p = 20 then g i else p + 1
def cf_col (g : Nat → Nat) (x i a j b : Nat) : Bool := decide (0 < cf_plc g i a) && decide (0 < cf_plc g j b) && (decide (cf_plc g i a = cf_plc g j b) || (decide (cf_plc g i (cf_p0 x i) = cf_plc g j b) && decide (cf_plc g i a = cf_plc g j (cf_p0 x j))))
def cf_wt1 (x i : Nat) : Nat := if cf_p0 x i = 20 then 0 else 1
def cf_wt (x : Nat) : Nat := cf_wt1 x 0 + cf_wt1 x 1 + cf_wt1 x 2
def cf_Ed (g : Nat → Nat) (st : Nat → Nat → Nat → Nat) (x y w : Nat) : Prop :=
  (∃ i, i < 3 ∧ cf_p0 x i + 1 = g i ∧ y = x + (20 - cf_p0 x i) * cf_pw i ∧ w = 0)
  ∨ (∃ m0 m1 m2 a b c, m0 < 5 ∧ m1 < 5 ∧ m2 < 5 ∧ cf_nxs st x 0 m0 = a + 1 ∧ cf_nxs st x 1 m1 = b + 1 ∧ cf_nxs st x 2 m2 = c + 1 ∧ cf_col g x 0 a 1 b = false ∧ cf_col g x 0 a 2 c = false ∧ cf_col g x 1 b 2 c = false ∧ y = a + 21 * b + 441 * c ∧ w = cf_wt x)
def cf_Rc (g : Nat → Nat) (st : Nat → Nat → Nat → Nat) (s0 : Nat) : Nat → Nat → Nat → Prop
  | 0, x, n => x = s0 ∧ n = 0
  | k + 1, x, n => ∃ y w m, cf_Rc g st s0 k y m ∧ cf_Ed g st y x w ∧ n = m + w
def cf_Re (g : Nat → Nat) (st : Nat → Nat → Nat → Nat) (s0 x n : Nat) : Prop := ∃ k, cf_Rc g st s0 k x n
theorem cf_Re_st {g : Nat → Nat} {st : Nat → Nat → Nat → Nat} {s0 x y w n : Nat} (h : cf_Re g st s0 x n) (e : cf_Ed g st x y w) : cf_Re g st s0 y (n + w) := by
  obtain ⟨k, h⟩ := h
  exact ⟨k + 1, x, w, n, h, e, rfl⟩
/-- what is known of the steps and of what each cart alone has to go -/
def cf_GF (g : Nat → Nat) (st : Nat → Nat → Nat → Nat) (hh : Nat → Nat → Nat) : Prop := (∀ i, i < 3 → g i ≤ 20) ∧ (∀ i p m, i < 3 → p < 20 → m < 5 → st i p m ≤ 20) ∧ (∀ i, i < 3 → hh i 20 = 0) ∧ (∀ i p, i < 3 → p ≤ 20 → hh i p ≤ 63 ∨ hh i p = 1000000)
  ∧ (∀ i p m q, i < 3 → p < 20 → m < 5 → hh i p ≤ 63 → st i p m = q + 1 → hh i q ≤ hh i p + 1 ∧ hh i p ≤ hh i q + 1 ∧ hh i q ≤ 63)
  ∧ (∀ i, i < 3 → 0 < g i → hh i (g i - 1) ≤ 63 → hh i (g i - 1) = 0)
def cf_h3 (hh : Nat → Nat → Nat) (x : Nat) : Nat := hh 0 (cf_p0 x 0) + hh 1 (cf_p0 x 1) + hh 2 (cf_p0 x 2)
theorem cf_p0_lt (x i : Nat) : cf_p0 x i < 21 := by
  match i with
  | 0 => exact Nat.mod_lt _ (by decide)
  | 1 => exact Nat.mod_lt _ (by decide)
  | n + 2 => exact Nat.mod_lt _ (by decide)
theorem cf_p0_mk {a b c : Nat} (ha : a < 21) (hb : b < 21) (hc : c < 21) : cf_p0 (a + 21 * b + 441 * c) 0 = a ∧ cf_p0 (a + 21 * b + 441 * c) 1 = b ∧ cf_p0 (a + 21 * b + 441 * c) 2 = c := by
  refine ⟨?_, ?_, ?_⟩
  · show (a + 21 * b + 441 * c) % 21 = a; omega
  · show (a + 21 * b + 441 * c) / 21 % 21 = b; omega
  · show (a + 21 * b + 441 * c) / 441 % 21 = c; omega
theorem cf_p0_x {x : Nat} (h : x < 9261) : x = cf_p0 x 0 + 21 * cf_p0 x 1 + 441 * cf_p0 x 2 := by
  show x = x % 21 + 21 * (x / 21 % 21) + 441 * (x / 441 % 21); omega
/-- one cart is done -/
theorem cf_p0_dn {x i : Nat} (h : x < 9261) (hi : i < 3) : x + (20 - cf_p0 x i) * cf_pw i < 9261 ∧ cf_p0 (x + (20 - cf_p0 x i) * cf_pw i) i = 20 ∧ ∀ j, j < 3 → ¬ j = i → cf_p0 (x + (20 - cf_p0 x i) * cf_pw i) j = cf_p0 x j := by
  have e := cf_p0_x h
  have l0 := cf_p0_lt x 0
  have l1 := cf_p0_lt x 1
  have l2 := cf_p0_lt x 2
  match i, hi with
  | 0, _ =>
    have ey : x + (20 - cf_p0 x 0) * cf_pw 0 = 20 + 21 * cf_p0 x 1 + 441 * cf_p0 x 2 := by show x + (20 - cf_p0 x 0) * 1 = _; omega
    rw [ey]
    obtain ⟨a, b, c⟩ := cf_p0_mk (a := 20) (by omega) l1 l2
    refine ⟨by omega, a, fun j hj hne => ?_⟩
    match j, hj with
    | 0, _ => exact absurd rfl hne
    | 1, _ => exact b
    | 2, _ => exact c
  | 1, _ =>
    have ey : x + (20 - cf_p0 x 1) * cf_pw 1 = cf_p0 x 0 + 21 * 20 + 441 * cf_p0 x 2 := by show x + (20 - cf_p0 x 1) * 21 = _; omega
    rw [ey]
    obtain ⟨a, b, c⟩ := cf_p0_mk (b := 20) l0 (by omega) l2
    refine ⟨by omega, b, fun j hj hne => ?_⟩
    match j, hj with
    | 0, _ => exact a
    | 1, _ => exact absurd rfl hne
    | 2, _ => exact c
  | 2, _ =>
    have ey : x + (20 - cf_p0 x 2) * cf_pw 2 = cf_p0 x 0 + 21 * cf_p0 x 1 + 441 * 20 := by show x + (20 - cf_p0 x 2) * 441 = _; omega
    rw [ey]
    obtain ⟨a, b, c⟩ := cf_p0_mk (c := 20) l0 l1 (by omega)
    refine ⟨by omega, c, fun j hj hne => ?_⟩
    match j, hj with
    | 0, _ => exact a
    | 1, _ => exact b
    | 2, _ => exact absurd rfl hne
theorem cf_wt_le (x : Nat) : cf_wt x ≤ 3 := by
  have a : ∀ i, cf_wt1 x i ≤ 1 := fun i => by unfold cf_wt1; split <;> omega
  have := a 0
  have := a 1
  have := a 2
  unfold cf_wt; omega
section CFG
variable {g : Nat → Nat} {st : Nat → Nat → Nat → Nat} {hh : Nat → Nat → Nat} {s0 : Nat}
theorem cf_nxs_lt (F : cf_GF g st hh) {x i m a : Nat} (hi : i < 3) (hm : m < 5) (e : cf_nxs st x i m = a + 1) : a < 21 := by
  have l := cf_p0_lt x i
  unfold cf_nxs at e
  by_cases q : cf_p0 x i = 20
  · rw [if_pos q] at e
    split at e <;> omega
  · rw [if_neg q] at e
    have := F.2.1 i (cf_p0 x i) m hi (by omega) hm
    omega
theorem cf_Ed_lt (F : cf_GF g st hh) {x y w : Nat} (hx : x < 9261) (E : cf_Ed g st x y w) : y < 9261 ∧ w ≤ 3 := by
  rcases E with ⟨i, hi, _, e, rfl⟩ | ⟨m0, m1, m2, a, b, c, h0, h1, h2, e0, e1, e2, _, _, _, e, rfl⟩
  · rw [e]; exact ⟨(cf_p0_dn hx hi).1, by omega⟩
  · have := cf_nxs_lt F (by omega) h0 e0
    have := cf_nxs_lt F (by omega) h1 e1
    have := cf_nxs_lt F (by omega) h2 e2
    exact ⟨by omega, cf_wt_le x⟩
theorem cf_h3_le (F : cf_GF g st hh) {x : Nat} (h : cf_h3 hh x < 1000000) : ∀ i, i < 3 → hh i (cf_p0 x i) ≤ 63 := by
  have a : ∀ i, i < 3 → hh i (cf_p0 x i) ≤ 63 ∨ hh i (cf_p0 x i) = 1000000 := fun i hi => F.2.2.2.1 i _ hi (by have := cf_p0_lt x i; omega)
  have a0 := a 0 (by omega)
  have a1 := a 1 (by omega)
  have a2 := a 2 (by omega)
  unfold cf_h3 at h
  intro i hi
  match i, hi with
  | 0, _ => omega
  | 1, _ => omega
  | 2, _ => omega
theorem cf_h3_189 (F : cf_GF g st hh) {x : Nat} (h : cf_h3 hh x < 1000000) : cf_h3 hh x ≤ 189 := by
  have a := cf_h3_le F h
  have a0 := a 0 (by omega)
  have a1 := a 1 (by omega)
  have a2 := a 2 (by omega)
  unfold cf_h3; omega
theorem cf_h3_end (F : cf_GF g st hh) : cf_h3 hh 9260 = 0 := by
  have a0 := F.2.2.1 0 (by omega)
  have a1 := F.2.2.1 1 (by omega)
  have a2 := F.2.2.1 2 (by omega)
  show hh 0 20 + hh 1 20 + hh 2 20 = 0
  omega
/-- one step of one cart -/
theorem cf_nxs_h (F : cf_GF g st hh) {x i m a : Nat} (hi : i < 3) (hm : m < 5) (h : hh i (cf_p0 x i) ≤ 63) (e : cf_nxs st x i m = a + 1) : hh i a ≤ 63 ∧ hh i (cf_p0 x i) ≤ cf_wt1 x i + hh i a ∧ hh i a ≤ hh i (cf_p0 x i) + 1 := by
  have l := cf_p0_lt x i
  unfold cf_nxs at e
  unfold cf_wt1
  by_cases q : cf_p0 x i = 20
  · rw [if_pos q] at e ⊢
    have z := F.2.2.1 i hi
    have : a = 20 := by split at e <;> omega
    rw [this, q, z]; omega
  · rw [if_neg q] at e ⊢
    have := F.2.2.2.2.1 i (cf_p0 x i) m a hi (by omega) hm h e
    omega
theorem cf_Ed_h (F : cf_GF g st hh) {x y w : Nat} (hx : x < 9261) (h : cf_h3 hh x < 1000000) (E : cf_Ed g st x y w) : cf_h3 hh y < 1000000 ∧ cf_h3 hh x ≤ w + cf_h3 hh y ∧ cf_h3 hh y + w ≤ cf_h3 hh x + 6 := by
  have a := cf_h3_le F h
  rcases E with ⟨i, hi, e1, e, rfl⟩ | ⟨m0, m1, m2, a', b, c, h0, h1, h2, e0, e1, e2, _, _, _, e, rfl⟩
  · obtain ⟨_, d1, d2⟩ := cf_p0_dn hx hi
    rw [← e] at d1 d2
    have z20 := F.2.2.1 i hi
    have z0 : hh i (cf_p0 x i) = 0 := by
      have := F.2.2.2.2.2 i hi (by omega)
      rw [show g i - 1 = cf_p0 x i by omega] at this
      exact this (a i hi)
    have hi' : hh i (cf_p0 y i) = hh i (cf_p0 x i) := by rw [d1, z20, z0]
    have hj : ∀ j, j < 3 → hh j (cf_p0 y j) = hh j (cf_p0 x j) := fun j hj => by
      by_cases q : j = i
      · subst q; exact hi'
      · rw [d2 j hj q]
    have : cf_h3 hh y = cf_h3 hh x := by unfold cf_h3; rw [hj 0 (by omega), hj 1 (by omega), hj 2 (by omega)]
    omega
  · obtain ⟨p0, p1, p2⟩ := cf_p0_mk (cf_nxs_lt F (by omega) h0 e0) (cf_nxs_lt F (by omega) h1 e1) (cf_nxs_lt F (by omega) h2 e2)
    rw [← e] at p0 p1 p2
    have n0 := cf_nxs_h F (by omega) h0 (a 0 (by omega)) e0
    have n1 := cf_nxs_h F (by omega) h1 (a 1 (by omega)) e1
    have n2 := cf_nxs_h F (by omega) h2 (a 2 (by omega)) e2
    have := cf_wt_le x
    unfold cf_h3 cf_wt at *
    rw [p0, p1, p2]
    omega
end CFG
def cf_fu (f : Nat → Nat) (a b : Nat) : Nat → Nat := fun x => if x = a then b else f x
theorem cf_fu_eq {f : Nat → Nat} {a b : Nat} : cf_fu f a b a = b := if_pos rfl
theorem cf_fu_ne {f : Nat → Nat} {a b x : Nat} (h : ¬ x = a) : cf_fu f a b x = f x := if_neg h
/-- what the search knows: s sums, r rings (and 1) of those that wait, cl those that are done with, X the one that is being expanded, l the least rank, e rings were empty -/
def cf_J3 (g : Nat → Nat) (st : Nat → Nat → Nat → Nat) (hh : Nat → Nat → Nat) (s0 : Nat) (s r : Nat → Nat) (cl : Nat → Bool) (X l e : Nat) : Prop :=
  (∀ x, x < 9261 → s x ≤ 1000000 ∧ r x ≤ 8 ∧ (s x < 1000000 → cf_Re g st s0 x (s x) ∧ cf_h3 hh x < 1000000)
    ∧ (0 < r x → cl x = false ∧ s x < 1000000 ∧ l ≤ s x + cf_h3 hh x ∧ s x + cf_h3 hh x + e ≤ l + 6 ∧ r x = (s x + cf_h3 hh x) % 8 + 1)
    ∧ (r x = 0 → s x < 1000000 → cl x = true)
    ∧ (cl x = true → r x = 0 ∧ s x < 1000000 ∧ ¬ x = 9260 ∧ s x + cf_h3 hh x ≤ l ∧ (¬ x = X → ∀ y w, cf_Ed g st x y w → s y ≤ s x + w)))
  ∧ s s0 = 0 ∧ s0 < 9261
section CFJ
variable {g : Nat → Nat} {st : Nat → Nat → Nat → Nat} {hh : Nat → Nat → Nat} {s0 X l e : Nat} {s r : Nat → Nat} {cl : Nat → Bool}
theorem cf_J3_path (F : cf_GF g st hh) (J : cf_J3 g st hh s0 s r cl X l e) (hX : 9261 ≤ X) : ∀ k y m, cf_Rc g st s0 k y m → y < 9261 ∧ cf_h3 hh y < 1000000 ∧ (s y ≤ m ∨ ∃ x, x < 9261 ∧ 0 < r x ∧ s x + cf_h3 hh x ≤ m + cf_h3 hh y)
  | 0, y, m, h => by
    obtain ⟨rfl, rfl⟩ := h
    obtain ⟨J1, J2, J3⟩ := J
    exact ⟨J3, ((J1 y J3).2.2.1 (by omega)).2, Or.inl (by omega)⟩
  | k + 1, y, m, h => by
    obtain ⟨z, w, m', h1, h2, h3⟩ := h
    obtain ⟨i1, i2, i3⟩ := cf_J3_path F J hX k z m' h1
    have l1 := cf_Ed_lt F i1 h2
    have l2 := cf_Ed_h F i1 i2 h2
    refine ⟨l1.1, l2.1, ?_⟩
    rcases i3 with i3 | ⟨x, x1, x2, x3⟩
    · obtain ⟨j1, j2, j3, j4, j5, j6⟩ := J.1 z i1
      by_cases q : s z < 1000000
      · by_cases w0 : r z = 0
        · have := (j6 (j5 w0 q)).2.2.2.2 (by omega) y w h2
          left; omega
        · right
          exact ⟨z, i1, by omega, by omega⟩
      · -- no finite sum
        left
        have := (J.1 y l1.1).1
        omega
    · right
      exact ⟨x, x1, x2, by omega⟩
/-- the end is found -/
theorem cf_J3_end (F : cf_GF g st hh) (J : cf_J3 g st hh s0 s r cl X l e) (hX : 9261 ≤ X) (h : r 9260 = l % 8 + 1) : cf_Re g st s0 9260 (s 9260) ∧ ∀ m, cf_Re g st s0 9260 m → s 9260 ≤ m := by
  obtain ⟨j1, j2, j3, j4, j5, j6⟩ := J.1 9260 (by omega)
  have h0 := cf_h3_end F
  obtain ⟨a1, a2, a3, a4, a5⟩ := j4 (by omega)
  refine ⟨(j3 a2).1, fun m ⟨k, hm⟩ => ?_⟩
  rcases (cf_J3_path F J hX k 9260 m hm).2.2 with q | ⟨x, x1, x2, x3⟩
  · exact q
  · have := ((J.1 x x1).2.2.2.1 x2).2.2.1
    omega
/-- nothing waits -/
theorem cf_J3_none (F : cf_GF g st hh) (J : cf_J3 g st hh s0 s r cl X l e) (hX : 9261 ≤ X) (h : ∀ x, x < 9261 → r x = 0) (hb : ∀ x, x < 9261 → cl x = true → s x < 900000) : ∀ m, ¬ cf_Re g st s0 9260 m := by
  have key : ∀ k y m, cf_Rc g st s0 k y m → y < 9261 ∧ cl y = true := by
    intro k
    induction k with
    | zero =>
      rintro y m ⟨rfl, rfl⟩
      refine ⟨J.2.2, (J.1 y J.2.2).2.2.2.2.1 (h y J.2.2) ?_⟩
      have := J.2.1; omega
    | succ k ih =>
      rintro y m ⟨z, w, m', h1, h2, h3⟩
      obtain ⟨i1, i2⟩ := ih z m' h1
      have l1 := cf_Ed_lt F i1 h2
      have := ((J.1 z i1).2.2.2.2.2 i2).2.2.2.2 (by omega) y w h2
      have := hb z i1 i2
      exact ⟨l1.1, (J.1 y l1.1).2.2.2.2.1 (h y l1.1) (by omega)⟩
  rintro m ⟨k, hm⟩
  have := key k 9260 m hm
  exact ((J.1 9260 (by omega)).2.2.2.2.2 this.2).2.2.1 rfl
/-- a better sum -/
theorem cf_J3_off (J : cf_J3 g st hh s0 s r cl X l 0) {y n : Nat} (hy : y < 9261) (hn : n < 1000000) (R : cf_Re g st s0 y n) (hh' : cf_h3 hh y < 1000000) (h1 : l ≤ n + cf_h3 hh y) (h2 : n + cf_h3 hh y ≤ l + 6) (hlt : n < s y) : cf_J3 g st hh s0 (cf_fu s y n) (cf_fu r y ((n + cf_h3 hh y) % 8 + 1)) cl X l 0 := by
  obtain ⟨J1, J2, J3⟩ := J
  have hcl : cl y = false := by
    rw [cf_not_true]
    intro q
    have := ((J1 y hy).2.2.2.2.2 q).2.2.2.1
    omega
  have dec : ∀ x, x < 9261 → cf_fu s y n x ≤ s x := fun x hx => by
    unfold cf_fu; split
    · rename_i q; subst q; omega
    · omega
  refine ⟨fun x hx => ?_, ?_, J3⟩
  · obtain ⟨j1, j2, j3, j4, j5, j6⟩ := J1 x hx
    by_cases q : x = y
    · subst q
      rw [cf_fu_eq, cf_fu_eq]
      refine ⟨by omega, by omega, fun _ => ⟨R, hh'⟩, fun _ => ⟨hcl, hn, h1, by omega, rfl⟩, fun z => by omega, fun z => ?_⟩
      rw [hcl] at z; cases z
    · rw [cf_fu_ne q, cf_fu_ne q]
      refine ⟨j1, j2, j3, j4, j5, fun z => ?_⟩
      obtain ⟨a1, a2, a3, a4, a5⟩ := j6 z
      refine ⟨a1, a2, a3, a4, fun z2 y' w E => ?_⟩
      have := a5 z2 y' w E
      by_cases z3 : y' < 9261
      · have := dec y' z3; omega
      · rw [cf_fu_ne (by omega)]; exact this
  · rw [cf_fu_ne (fun q => by subst q; omega)]; exact J2
end CFJ
