/-! The reference's world is the class's. -/
theorem cf_ff_eq {p q : Nat → Bool} : ∀ {n : Nat}, (∀ i, i < n → p i = q i) → cf_ff p n = cf_ff q n
  | 0, _ => rfl
  | n + 1, h => by rw [cf_ff, cf_ff, cf_ff_eq (n := n) (fun i hi => h i (by omega)), h n (by omega)]
theorem cf_un_eq {p q : Nat → Int64} : ∀ {n : Nat}, (∀ i, i < n → p i = q i) → cf_un p n = cf_un q n
  | 0, _ => rfl
  | n + 1, h => by rw [cf_un, cf_un, cf_un_eq (n := n) (fun i hi => h i (by omega)), h n (by omega)]
theorem cf_car_eq {st st2 : Nat → Nat} {s d d2 : Nat} (hd : d = d2) : ∀ {n : Nat}, (∀ c, c < n → st c = st2 c) → cf_car st s d n = cf_car st2 s d2 n
  | 0, _ => hd
  | n + 1, h => by rw [cf_car, cf_car, cf_car_eq hd (n := n) (fun i hi => h i (by omega)), h n (by omega)]
theorem cf_lie_eq {n m q : Nat} {st st2 sp sp2 : Nat → Nat} (h1 : ∀ c, c < n → st c = st2 c) (h2 : ∀ s, s < m → sp s = sp2 s) : cf_lie n m st sp q = cf_lie n m st2 sp2 q := by
  unfold cf_lie
  refine cf_ff_eq (fun i hi => ?_)
  rw [h2 i hi, cf_any_eq (fun c hc => by rw [h1 c hc])]
/-- a SHELF that is carried at tick 0 is where its cart is -/
def cf_H0 (S : cf_S) : Prop := ∀ c s, c < S 0 2 → s < S 0 3 → S 9 c / 256 = s + 1 → S 12 s = S 9 c % 64
theorem cf_car_0 {st : Nat → Nat} {s d : Nat} : ∀ {n : Nat}, (∀ c, c < n → st c / 256 = s + 1 → d = st c % 64) → cf_car st s d n = d
  | 0, _ => rfl
  | n + 1, h => by
    rw [cf_car]
    by_cases e : st n / 256 = s + 1
    · rw [if_pos e]; exact (h n (by omega) e).symm
    · rw [if_neg e]; exact cf_car_0 (n := n) (fun c hc => h c (by omega))
theorem cf_nr_nx {S : cf_S} {nl t c : Nat} {W : (Nat → Nat) × (Nat → Nat)} : cf_nr S 0 nl W.1 W.2 t c = cf_nx S W t c := by
  unfold cf_nr cf_nx cf_al
  rw [decide_eq_false (by omega), Bool.false_and, Bool.not_false, cond_true]
theorem cf_nx_eq {S : cf_S} {W W2 : (Nat → Nat) × (Nat → Nat)} (h1 : ∀ c, c < S 0 2 → W.1 c = W2.1 c) (h2 : ∀ s, s < S 0 3 → W.2 s = W2.2 s) {t c : Nat} (hc : c < S 0 2) : cf_nx S W t c = cf_nx S W2 t c := by
  unfold cf_nx
  rw [h1 c hc, cf_lie_eq h1 h2]
theorem cf_v_w {S : cf_S} (H : cf_H0 S) (nl : Nat) : ∀ t, (∀ c, c < S 0 2 → (cf_v S 0 nl t).1 c = (cf_w S t).1 c) ∧ (∀ s, s < S 0 3 → (cf_v S 0 nl t).2 s = (cf_w S t).2 s)
  | 0 => ⟨fun c hc => rfl, fun s hs => cf_car_0 (fun c hc e => H c s hc hs e)⟩
  | t + 1 => by
    obtain ⟨h1, h2⟩ := cf_v_w H nl t
    have g : ∀ c, c < S 0 2 → (cf_v S 0 nl (t + 1)).1 c = (cf_w S (t + 1)).1 c := by
      intro c hc
      show (cf_nr S 0 nl (cf_v S 0 nl t).1 (cf_v S 0 nl t).2 t c).getD ((cf_v S 0 nl t).1 c) = (cf_nx S (cf_w S t) t c).getD ((cf_w S t).1 c)
      rw [cf_nr_nx, cf_nx_eq h1 h2 hc, h1 c hc]
    exact ⟨g, fun s hs => cf_car_eq (h2 s hs) g⟩
/-- what work() leaves, in the class's words -/
def cf_NW (S : cf_S) (hi : Nat → Nat → Int32) (hl : Nat → Nat → Int64) : Prop :=
  (∀ c, c < S 0 2 → (∀ u, u < 402 → hi 101 (402 * c + u) = nI (cf_st S u c % 64) ∧ hi 102 (402 * c + u) = nI (cf_st S u c / 64 % 4) ∧ hi 103 (402 * c + u) = oI (cf_st S u c / 256) ∧ hl 105 (402 * c + u) = cf_sd S u c ∧ hl 106 (402 * c + u) = cf_hd S u c)
    ∧ (∀ u, u < 401 → hi 104 (402 * c + u) = cf_B (cf_made S u c)))
  ∧ (∀ s, s < S 0 3 → ∀ u, u < 402 → hi 108 (402 * s + u) = nI (cf_sp S u s))
theorem cf_N_NW {S : cf_S} {nl : Nat} {hi : Nat → Nat → Int32} {hl : Nat → Nat → Int64} (H : cf_H0 S) (N : cf_N S 0 nl hi hl) : cf_NW S hi hl := by
  have e : ∀ u c, c < S 0 2 → cf_vt S 0 nl u c = cf_st S u c := fun u c hc => (cf_v_w H nl u).1 c hc
  have ed : ∀ u c, c < S 0 2 → cf_vd S 0 nl u c = cf_sd S u c := fun u c hc => by unfold cf_vd cf_sd; rw [e u c hc]
  have eq : ∀ u c, c < S 0 2 → cf_vq S 0 nl u c = cf_td S u c := fun u c hc => by unfold cf_vq cf_td; rw [e u c hc]
  refine ⟨fun c hc => ⟨fun u hu => ?_, fun u hu => ?_⟩, fun s hs u hu => ?_⟩
  · obtain ⟨a, b, d, f, g⟩ := (N.1 c hc).1 u hu
    rw [e u c hc] at a b d
    rw [ed u c hc] at f
    refine ⟨a, b, d, f, ?_⟩
    rw [g]
    unfold cf_vh cf_hd
    rw [ed u c hc, eq u c hc, eq (u - 1) c hc]
  · rw [(N.1 c hc).2 u hu]
    unfold cf_vm cf_made
    rw [cf_nr_nx, cf_nx_eq (cf_v_w H nl u).1 (cf_v_w H nl u).2 hc]
  · rw [N.2 s hs u hu]
    have := (cf_v_w H nl u).2 s hs
    show nI ((cf_v S 0 nl u).2 s) = nI ((cf_w S u).2 s)
    rw [this]
section RXE
variable {L : Nat} {t : List (Nat × Nat)} {v : Nat → Nat → Option Nat}
variable {RV : (Nat → Nat → Int32) → (Nat → Nat → Int64) → (Nat → Nat → Option Nat) → Prop}
/-- the reference's number of none -/
def cf_ck (hi : Nat → Nat → Int32) : Prop := hi 90 35 = -1 ∧ ∃ nl, hi 90 36 = nI nl ∧ nl < 2 ^ 20
theorem c191w {S : cf_S} {hi : Nat → Nat → Int32} {hl : Nat → Nat → Int64} (V : cf_V S) (H : cf_H0 S) (M : cf_M S hi) (K : cf_ck hi)
    (k : ∀ hi2 hl2, cf_fw hi hi2 → cf_fwl hl hl2 → cf_M S hi2 → cf_ck hi2 → cf_NW S hi2 hl2 → RV hi2 hl2 v) : rx_CV L t 191 [.ref 90] hi hl v RV := by
  obtain ⟨h1, nl, h2, h3⟩ := K
  exact c191 (ck := 0) V M h1 (by omega) h2 h3 (fun hi2 hl2 F Fl M2 N => k hi2 hl2 F Fl M2 ⟨(F 90 35 (by omega) (by omega) (by omega)).trans h1, nl, (F 90 36 (by omega) (by omega) (by omega)).trans h2, h3⟩ (cf_N_NW H N))
end RXE
