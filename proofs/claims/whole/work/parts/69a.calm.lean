/-! What a search of the class sees: what is taken, when the others are calm. -/
def cf_mxo (S : cf_S) (c : Nat) : Nat := cf_mx (fun o => if o = c then 0 else S 4 o) (S 0 2)
def cf_clm (S : cf_S) (c f : Nat) : Nat := max f (cf_mxo S c + 1)
theorem cf_mxo_le {S : cf_S} {c o : Nat} (ho : o < S 0 2) (h : ¬ o = c) : S 4 o ≤ cf_mxo S c := by
  have := cf_le_mx (f := fun o => if o = c then 0 else S 4 o) ho
  rwa [if_neg h] at this
theorem cf_mxo_b {S : cf_S} (V : cf_V S) (c : Nat) : cf_mxo S c ≤ 400 := by
  refine cf_mx_le (fun o ho => ?_)
  split
  · omega
  · exact (V.2.2.2.2.2.2.1 o ho).2.2.2.1
theorem cf_clm_b {S : cf_S} (V : cf_V S) {c f : Nat} (hf : f ≤ 401) : cf_clm S c f ≤ 401 := by
  have := cf_mxo_b V c
  unfold cf_clm; omega
theorem cf_calm {S : cf_S} {c f : Nat} (hf : S 4 c ≤ f) : ∀ d, (∀ o, o < S 0 2 → cf_st S (cf_clm S c f + d) o = cf_st S (cf_clm S c f) o) ∧ (∀ s, cf_sp S (cf_clm S c f + d) s = cf_sp S (cf_clm S c f) s)
  | 0 => ⟨fun _ _ => rfl, fun _ => rfl⟩
  | d + 1 => by
    obtain ⟨h1, h2⟩ := cf_calm (S := S) (c := c) hf d
    have hE : ∀ o, o < S 0 2 → S 4 o ≤ cf_clm S c f := by
      intro o ho
      by_cases e : o = c
      · subst e; unfold cf_clm; omega
      · have := cf_mxo_le ho e; unfold cf_clm; omega
    have hst : ∀ u, cf_clm S c f ≤ u → ∀ o, o < S 0 2 → cf_st S (u + 1) o = cf_st S u o := fun u hu o ho => cf_st_E (Nat.le_trans (hE o ho) hu)
    refine ⟨fun o ho => ?_, fun s => ?_⟩
    · rw [← Nat.add_assoc, hst _ (by omega) o ho]; exact h1 o ho
    · obtain ⟨g, hg⟩ : ∃ g, cf_clm S c f = g + 1 := ⟨cf_clm S c f - 1, by unfold cf_clm; omega⟩
      rw [← h2 s, ← Nat.add_assoc]
      have e1 : cf_sp S (cf_clm S c f + d + 1) s = cf_car (fun o => cf_st S (cf_clm S c f + d + 1) o) s (cf_sp S (cf_clm S c f + d) s) (S 0 2) := rfl
      have e2 : cf_sp S (cf_clm S c f + d) s = cf_car (fun o => cf_st S (cf_clm S c f + d) o) s (cf_sp S (g + d) s) (S 0 2) := by
        rw [hg, show g + 1 + d = g + d + 1 by omega]; rfl
      rw [e1, cf_car_eq rfl (fun o ho => hst _ (by omega) o ho)]
      have := cf_car_car (st := fun o => cf_st S (cf_clm S c f + d) o) (s := s) (d := cf_sp S (g + d) s) (n := S 0 2) (cf_sp S (cf_clm S c f + d) s) (Or.inr e2)
      rw [this]; exact e2.symm
theorem cf_calm_st {S : cf_S} {c f u o : Nat} (hf : S 4 c ≤ f) (hu : cf_clm S c f ≤ u) (ho : o < S 0 2) : cf_st S u o = cf_st S (cf_clm S c f) o := by
  have := (cf_calm (S := S) (c := c) hf (u - cf_clm S c f)).1 o ho
  rwa [show cf_clm S c f + (u - cf_clm S c f) = u by omega] at this
theorem cf_calm_sp {S : cf_S} {c f u : Nat} (hf : S 4 c ≤ f) (hu : cf_clm S c f ≤ u) (s : Nat) : cf_sp S u s = cf_sp S (cf_clm S c f) s := by
  have := (cf_calm (S := S) (c := c) hf (u - cf_clm S c f)).2 s
  rwa [show cf_clm S c f + (u - cf_clm S c f) = u by omega] at this
theorem cf_calm_sd {S : cf_S} {c f u o : Nat} (hf : S 4 c ≤ f) (hu : cf_clm S c f ≤ u) (ho : o < S 0 2) : cf_sd S u o = cf_sd S (cf_clm S c f) o := by unfold cf_sd; rw [cf_calm_st hf hu ho]
theorem cf_calm_hd {S : cf_S} {c f u o : Nat} (hf : S 4 c ≤ f) (hu : cf_clm S c f ≤ u) (ho : o < S 0 2) (hc : ¬ o = c) : cf_hd S u o = cf_hd S (cf_clm S c f) o := by
  have := cf_mxo_le ho hc
  have hk : cf_mxo S c + 1 ≤ cf_clm S c f := by unfold cf_clm; omega
  unfold cf_hd
  rw [cf_calm_sd hf hu ho, cf_td_0 (show S 4 o ≤ u by omega), cf_td_0 (show S 4 o ≤ u - 1 by omega), cf_td_0 (show S 4 o ≤ cf_clm S c f by omega), cf_td_0 (show S 4 o ≤ cf_clm S c f - 1 by omega), if_neg (by omega), if_neg (by omega)]
theorem cf_calm_oth {S : cf_S} {c f u : Nat} (hf : S 4 c ≤ f) (hu : cf_clm S c f ≤ u) : cf_oth S c u = cf_oth S c (cf_clm S c f) := by
  unfold cf_oth
  refine cf_un_eq (fun o ho => ?_)
  by_cases e : o = c
  · rw [if_pos e, if_pos e]
  · rw [if_neg e, if_neg e, cf_calm_hd hf hu ho e]
theorem cf_calm_sq {S : cf_S} {c f u : Nat} (hf : S 4 c ≤ f) (hu : cf_clm S c f ≤ u) (x : Nat) : cf_sq S u x = cf_sq S (cf_clm S c f) x := by
  unfold cf_sq
  refine cf_un_eq (fun s hs => ?_)
  rw [cf_calm_sp hf hu s]
theorem cf_calm_blk {S : cf_S} {c f u l : Nat} (hf : S 4 c ≤ f) (hu : cf_clm S c f ≤ u) : cf_blk S c l u = cf_blk S c l (cf_clm S c f) := by
  unfold cf_blk; rw [cf_calm_oth hf hu, cf_calm_sq hf hu]
theorem cf_blk_min {S : cf_S} {c f u l : Nat} (hf : S 4 c ≤ f) : cf_blk S c l (min u (cf_clm S c f)) = cf_blk S c l u := by
  rcases Nat.le_total u (cf_clm S c f) with h | h
  · rw [Nat.min_eq_left h]
  · rw [Nat.min_eq_right h, cf_calm_blk hf h]
/-- the class's sets and the reference's: what is outside of the floor is taken too -/
theorem cf_blk_gT {S : cf_S} {c l u q : Nat} (hq : q < 64) : cf_has (cf_blk S c l u) q = (decide (¬ q < S 0 0 * S 0 1) || cf_has (cf_gT S (cf_sp S) (cf_hd S) c l u) q) := by
  unfold cf_blk cf_gT
  have e1 : cf_oth S c u = cf_othg (S 0 2) (cf_hd S) c u := rfl
  have e2 : (if S 3 c = 1 ∧ l = 0 then 0 else cf_sq S u l) = cf_rowg S (cf_sp S) c l u := by
    unfold cf_rowg
    by_cases h : S 3 c = 1 ∧ l = 0
    · rw [if_pos h, decide_eq_true h]; rfl
    · rw [if_neg h, decide_eq_false h]; rfl
  rw [e1, e2]
  simp only [cf_hor, cf_has_of]
  rw [decide_eq_true hq, Bool.true_and, Bool.or_assoc, Bool.or_assoc, Bool.or_assoc]
theorem cf_calm_gT {S : cf_S} {c f u l : Nat} (hf : S 4 c ≤ f) (hu : cf_clm S c f ≤ u) : cf_gT S (cf_sp S) (cf_hd S) c l u = cf_gT S (cf_sp S) (cf_hd S) c l (cf_clm S c f) := by
  have e1 : ∀ u, cf_oth S c u = cf_othg (S 0 2) (cf_hd S) c u := fun u => rfl
  have e2 : ∀ u, cf_sq S u l = cf_sqg (S 0 3) (cf_sp S) u l := fun u => rfl
  unfold cf_gT cf_rowg
  rw [← e1, ← e1, ← e2, ← e2, cf_calm_oth hf hu, cf_calm_sq hf hu]
/-- what is taken from a tick on -/
theorem cf_suf_has (f : Nat → Int64) (q : Nat) : ∀ k, k ≤ 402 → (cf_has (cf_suf f k) q = true ↔ ∃ u, 402 - k ≤ u ∧ u < 402 ∧ cf_has (f u) q = true)
  | 0, _ => by rw [cf_suf, cf_h0]; exact ⟨fun h => (by cases h), fun ⟨u, h1, h2, _⟩ => (by omega)⟩
  | k + 1, hk => by
    rw [cf_suf, cf_hor, Bool.or_eq_true, cf_suf_has f q k (by omega)]
    constructor
    · rintro (h | ⟨u, h1, h2, h3⟩)
      · exact ⟨401 - k, by omega, by omega, h⟩
      · exact ⟨u, by omega, h2, h3⟩
    · rintro ⟨u, h1, h2, h3⟩
      by_cases e : u = 401 - k
      · left; rw [← e]; exact h3
      · right; exact ⟨u, by omega, h2, h3⟩
theorem cf_gL_has {S : cf_S} {sp : Nat → Nat → Nat} {hd : Nat → Nat → Int64} {c l u q : Nat} (hu : u ≤ 402) : cf_has (cf_gL S sp hd c l u) q = true ↔ ∃ u', u ≤ u' ∧ u' < 402 ∧ (cf_has (cf_othg (S 0 2) hd c u') q = true ∨ cf_has (cf_rowg S sp c l u') q = true) := by
  unfold cf_gL
  rw [cf_hor, Bool.or_eq_true, cf_suf_has _ _ _ (by omega), cf_suf_has _ _ _ (by omega), show 402 - (402 - u) = u by omega]
  constructor
  · rintro (⟨x, h1, h2, h3⟩ | ⟨x, h1, h2, h3⟩)
    · exact ⟨x, h1, h2, Or.inl h3⟩
    · exact ⟨x, h1, h2, Or.inr h3⟩
  · rintro ⟨x, h1, h2, h3 | h3⟩
    · exact Or.inl ⟨x, h1, h2, h3⟩
    · exact Or.inr ⟨x, h1, h2, h3⟩
section RXE
variable {L : Nat} {t : List (Nat × Nat)} {hi : Nat → Nat → Int32} {hl : Nat → Nat → Int64} {v : Nat → Nat → Option Nat}
variable {RI : Int32 → (Nat → Nat → Int32) → (Nat → Nat → Int64) → (Nat → Nat → Option Nat) → Prop}
variable {RL : Int64 → (Nat → Nat → Int32) → (Nat → Nat → Int64) → (Nat → Nat → Option Nat) → Prop}
variable {RV : (Nat → Nat → Int32) → (Nat → Nat → Int64) → (Nat → Nat → Option Nat) → Prop}
theorem c36 {S : cf_S} (V : cf_V S) (C : cf_C S hi) {c : Nat} (hc : c < S 0 2) (k : RI (nI (cf_mxo S c)) hi hl v) : rx_CI L t 36 [.ref 13, .ref (rx_ct c)] hi hl v RI := by
  have h6 := V.2.2.1
  have loop : ∀ d i, i + d = S 0 2 → rx_aw 36 4 [.ref 13, .ref (rx_ct c), .int (nI (cf_mx (fun o => if o = c then 0 else S 4 o) i)), .int (nI i)] [] (rx_hp L t hi hl v) (fun r h2 => ∃ z : Int32, r = some (.int z) ∧ rx_ok2 L t h2 (RI z)) := by
    intro d
    induction d with
    | zero =>
      intro i hi0
      have : i = S 0 2 := by omega
      subst this
      refine w36_greatestEnd_4 (by omega) ⟨fun _ => c_retI k, fun g => absurd ?_ g⟩
      rw [C.1]; exact nI_le (Nat.le_refl _) (by omega)
    | succ d ih =>
      intro i hi0
      have := ih (i + 1) (by omega)
      have hb : cf_mx (fun o => if o = c then 0 else S 4 o) i ≤ 400 := by
        refine cf_mx_le (fun o ho => ?_)
        split
        · omega
        · exact (V.2.2.2.2.2.2.1 o (by omega)).2.2.2.1
      have h4 := (V.2.2.2.2.2.2.1 i (by omega)).2.2.2.1
      refine w36_greatestEnd_4 (by omega) ⟨fun g => ?_, fun _ => ⟨i, rfl, by omega, fun g => ?_, fun g => ⟨i, rfl, by omega, ?_⟩⟩⟩
      · rw [C.1] at g; exact absurd g (nI_ge (by omega) (by omega))
      · rw [cf_ct_inj] at g
        rw [cf_mx, if_pos g, Nat.max_eq_left (Nat.zero_le _)] at this
        rw [nI_1]; exact this
      · rw [cf_ct_inj] at g
        rw [cf_mx, if_neg g] at this
        rw [(C.2.2.1 i (by omega)).2.2.1, nI_1]
        by_cases q : cf_mx (fun o => if o = c then 0 else S 4 o) i < S 4 i
        · rw [if_pos (nI_lt q (by omega))]
          rw [Nat.max_eq_right (by omega)] at this; exact this
        · rw [if_neg (nI_nlt (by omega) (by omega))]
          rw [Nat.max_eq_left (by omega)] at this; exact this
  exact w36_greatestEnd (by omega) (loop (S 0 2) 0 (by omega))
/-- all that a search knows -/
def cf_CX (S : cf_S) (c l f tg wt : Nat) (last : Bool) (hi : Nat → Nat → Int32) (hl : Nat → Nat → Int64) (v : Nat → Nat → Option Nat) : Prop :=
  cf_XR S hi hl ∧ v 77 8 = some (rx_ct c) ∧ hi 77 10 = nI tg ∧ hi 77 11 = oI wt ∧ hi 77 12 = cf_B last ∧ hi 77 9 = nI (cf_clm S c f)
  ∧ ∀ u, f ≤ u → u ≤ cf_clm S c f → hl 78 u = cf_blk S c l u ∧ ∀ q, q < 64 → cf_has (hl 79 u) q = cf_any (fun j => cf_has (cf_blk S c l (u + j)) q) (cf_clm S c f + 1 - u)
theorem cf_XR_fs {S : cf_S} {c : Nat} (hc6 : c < 6) {hi hi2 : Nat → Nat → Int32} {hl hl2 : Nat → Nat → Int64} (X : cf_XR S hi hl) (F : ∀ a b, ¬ (77 ≤ a ∧ a ≤ 83) → ¬ (a = rx_ct c + 1 ∧ S 4 c ≤ b) → hi2 a b = hi a b) (Fl : ∀ a b, ¬ (77 ≤ a ∧ a ≤ 83) → hl2 a b = hl a b) : cf_XR S hi2 hl2 := by
  obtain ⟨⟨V, K1, K2, K3, C, G1, G2, B⟩, R1, R2, R3⟩ := X
  have h6 := V.2.2.1
  have h12 := V.2.2.2.1
  have f0 : ∀ a b, a < 16 → hi2 a b = hi a b := fun a b h => F a b (by omega) (by unfold rx_ct; omega)
  refine ⟨⟨V, ?_, ?_, fun q hq => ?_, ?_, fun q hq => (f0 8 q (by omega)).trans (G1 q hq), fun q hq => (f0 9 q (by omega)).trans (G2 q hq), (Fl 7 10 (by omega)).trans B⟩, R1.imp (fun z => (f0 13 5 (by omega)).trans z) (fun z => ⟨z.1, z.2.1, (f0 13 5 (by omega)).trans z.2.2⟩), fun o ho => ⟨fun u hu => ?_, ?_⟩, fun s hs u hu => ?_⟩
  · obtain ⟨a1, a2, a3, a4, a5, a6⟩ := K1
    exact ⟨a1, a2, a3, a4, (f0 7 0 (by omega)).trans a5, (f0 7 1 (by omega)).trans a6⟩
  · exact cf_K2_eq K2 (fun b => f0 10 b (by omega)) (fun b => Fl 11 b (by omega)) (fun b => Fl 12 b (by omega))
  · obtain ⟨k1, k2, k3⟩ := K3 q hq
    rw [Fl 7 2 (by omega), Fl 7 3 (by omega), Fl 7 4 (by omega)]
    exact ⟨k1, k2, k3⟩
  · obtain ⟨c1, c2, c3, c4⟩ := C
    refine ⟨(f0 13 3 (by omega)).trans c1, (f0 13 4 (by omega)).trans c2, fun o ho => ?_, fun s hs => ?_⟩
    · obtain ⟨d1, d2, d3, d4, d5, d6, d7, d8⟩ := c3 o ho
      have ff : ∀ j, hi2 (rx_ct o) j = hi (rx_ct o) j := fun j => F _ _ (by unfold rx_ct; omega) (by unfold rx_ct; omega)
      refine ⟨(ff 5).trans d1, (ff 6).trans d2, (ff 7).trans d3, (ff 8).trans d4, (ff 9).trans d5, (ff 10).trans d6, (ff 11).trans d7, fun u hu => ?_⟩
      rw [F _ _ (by unfold rx_ct; omega) ?_]
      · exact d8 u hu
      · rintro ⟨q1, q2⟩
        have : o = c := by unfold rx_ct at q1; omega
        subst this; omega
    · rw [F _ _ (by unfold rx_sf; omega) (by unfold rx_sf rx_ct; omega)]; exact c4 s hs
  · obtain ⟨r1, r2, r3⟩ := (R2 o ho).1 u hu
    rw [F _ _ (by unfold rx_ct; omega) (by unfold rx_ct; omega), Fl _ _ (by unfold rx_ct; omega), Fl _ _ (by unfold rx_ct; omega)]
    exact ⟨r1, r2, r3⟩
  · rw [F _ _ (by unfold rx_ct; omega) (by unfold rx_ct; omega)]; exact (R2 o ho).2
  · rw [F _ _ (by unfold rx_sf; omega) (by unfold rx_sf rx_ct; omega)]; exact R3 s hs u hu
/-- what a search writes beside its sets of what is taken -/
def cf_fx (hi hi2 : Nat → Nat → Int32) (hl hl2 : Nat → Nat → Int64) : Prop := (∀ a b, ¬ a = 82 → hi2 a b = hi a b) ∧ (∀ a b, ¬ (80 ≤ a ∧ a ≤ 83) → hl2 a b = hl a b)
theorem cf_fx_r {hi : Nat → Nat → Int32} {hl : Nat → Nat → Int64} : cf_fx hi hi hl hl := ⟨fun _ _ _ => rfl, fun _ _ _ => rfl⟩
theorem cf_fx_t {hi hi2 hi3 : Nat → Nat → Int32} {hl hl2 hl3 : Nat → Nat → Int64} (h1 : cf_fx hi hi2 hl hl2) (h2 : cf_fx hi2 hi3 hl2 hl3) : cf_fx hi hi3 hl hl3 :=
  ⟨fun a b q => (h2.1 a b q).trans (h1.1 a b q), fun a b q => (h2.2 a b q).trans (h1.2 a b q)⟩
theorem cf_CX_fx {S : cf_S} {c l f tg wt : Nat} {last : Bool} {hi hi2 : Nat → Nat → Int32} {hl hl2 : Nat → Nat → Int64} (X : cf_CX S c l f tg wt last hi hl v) (F : cf_fx hi hi2 hl hl2) : cf_CX S c l f tg wt last hi2 hl2 v := by
  obtain ⟨X1, x2, x3, x4, x5, x6, x7⟩ := X
  refine ⟨cf_XR_fs (c := 0) (by decide) X1 (fun a b q1 q2 => F.1 a b (by omega)) (fun a b q => F.2 a b (by omega)), x2, (F.1 77 10 (by omega)).trans x3, (F.1 77 11 (by omega)).trans x4, (F.1 77 12 (by omega)).trans x5, (F.1 77 9 (by omega)).trans x6, fun u h1 h2 => ?_⟩
  rw [F.2 78 u (by omega), F.2 79 u (by omega)]
  exact x7 u h1 h2
theorem c65 {S : cf_S} (X : cf_XR S hi hl) {c l f : Nat} (hv : v 77 8 = some (rx_ct c)) (hc : c < S 0 2) (hl' : l < 2 ^ 20) (hf : f ≤ 401)
    (k : ∀ hi2 hl2, (∀ a b, ¬ (a = 77 ∧ b = 9) → hi2 a b = hi a b) → (∀ a b, ¬ a = 78 → ¬ a = 79 → hl2 a b = hl a b) → hi2 77 9 = nI (cf_clm S c f) → (∀ u, f ≤ u → u ≤ cf_clm S c f → hl2 78 u = cf_blk S c l u ∧ ∀ q, q < 64 → cf_has (hl2 79 u) q = cf_any (fun j => cf_has (cf_blk S c l (u + j)) q) (cf_clm S c f + 1 - u)) → RV hi2 hl2 v) :
    rx_CV L t 65 [.ref 77, .int (oI l), .int (nI f)] hi hl v RV := by
  have V := X.1.1
  have h6 := V.2.2.1
  have hclm := cf_clm_b V (c := c) hf
  have hclf : f ≤ cf_clm S c f := by unfold cf_clm; omega
  have hmx := cf_mxo_b V c
  have emax : (if nI f < nI (cf_mxo S c) + 1 then nI (cf_mxo S c) + 1 else nI f) = nI (cf_clm S c f) := by
    rw [nI_1]
    unfold cf_clm
    by_cases q : f < cf_mxo S c + 1
    · rw [if_pos (nI_lt q (by omega)), Nat.max_eq_right (by omega)]
    · rw [if_neg (nI_nlt (by omega) (by omega)), Nat.max_eq_left (by omega)]
  generalize hT : cf_clm S c f = T at *
  have loop : ∀ d i, i = f + d → i ≤ T + 1 → ∀ (hl2 : Nat → Nat → Int64) (x : Int64), (∀ a b, ¬ a = 78 → ¬ a = 79 → hl2 a b = hl a b) → (∀ q, q < 64 → cf_has x q = cf_any (fun j => cf_has (cf_blk S c l (i + j)) q) (T + 1 - i)) → (∀ u, i ≤ u → u ≤ T → hl2 78 u = cf_blk S c l u ∧ ∀ q, q < 64 → cf_has (hl2 79 u) q = cf_any (fun j => cf_has (cf_blk S c l (u + j)) q) (T + 1 - u)) →
      rx_aw 65 29 [.ref 77, .int (oI l), .int (nI f), .long x, rx_no, .int (oI i)] [] (rx_hp L t (rx_u hi 77 9 (nI T)) hl2 v) (fun r h2 => r = none ∧ rx_ok2 L t h2 RV) := by
    intro d
    induction d with
    | zero =>
      intro i hi0 hiT hl2 x F G H
      have : i = f := by omega
      subst this
      have hlt : oI i < nI i := by
        rw [cf_lt, cf_oI_toInt (by omega), nI_toInt (by omega)]; omega
      exact w65_findTaboo_29 ⟨fun _ => c_retV (k _ hl2 (fun a b q => cf_ru_ne q) F cf_ru_eq H), fun g => absurd hlt g⟩
    | succ d ih =>
      intro i hi0 hiT hl2 x F G H
      obtain ⟨u, hu⟩ : ∃ u, i = u + 1 := ⟨i - 1, by omega⟩
      subst hu
      rw [cf_oS]
      have X2 : cf_XR S (rx_u hi 77 9 (nI T)) hl2 := cf_XR_fs (c := 0) (by decide) X (fun a b q1 q2 => cf_ru_ne (by omega)) (fun a b q => F a b (by omega) (by omega))
      refine w65_findTaboo_29 ⟨fun g => absurd g (nI_nlt (by omega) (by omega)), fun _ => Or.inr ⟨c, by omega, hv, c66 X2 hc hl' (by omega) ⟨u, rfl, by omega, u, rfl, by omega, u, rfl, by omega, ?_⟩⟩⟩
      rw [cf_ru_eq, cf_addm]
      have hx2 : ∀ q, q < 64 → cf_has (x ||| cf_blk S c l u) q = cf_any (fun j => cf_has (cf_blk S c l (u + j)) q) (T + 1 - u) := by
        intro q hq
        rw [cf_hor, G q hq]
        apply Bool.eq_iff_iff.mpr
        rw [Bool.or_eq_true, cf_any_iff, cf_any_iff]
        constructor
        · rintro (⟨j, h1, h2⟩ | h2)
          · exact ⟨j + 1, by omega, by rw [show u + (j + 1) = u + 1 + j by omega]; exact h2⟩
          · exact ⟨0, by omega, h2⟩
        · rintro ⟨j, h1, h2⟩
          cases j with
          | zero => exact Or.inr h2
          | succ j => exact Or.inl ⟨j, by omega, by rw [show u + 1 + j = u + (j + 1) by omega]; exact h2⟩
      refine ih u (by omega) (by omega) _ _ (fun a b q1 q2 => ?_) hx2 (fun u2 h1 h2 => ?_)
      · rw [cf_ru_ne (by omega), cf_ru_ne (by omega)]; exact F a b q1 q2
      · by_cases e : u2 = u
        · subst e
          rw [cf_ru_ne (by omega), cf_ru_eq, cf_ru_eq]
          exact ⟨rfl, hx2⟩
        · rw [cf_ru_ne (by omega), cf_ru_ne (by omega), cf_ru_ne (by omega), cf_ru_ne (by omega)]
          exact H u2 (by omega) h2
  refine w65_findTaboo (Or.inr ⟨c, by omega, hv, c36 V X.1.2.2.2.2.1 hc ?_⟩)
  rw [emax, cf_ru_eq]
  have := loop (T + 1 - f) (T + 1) (by omega) (Nat.le_refl _) hl 0 (fun _ _ _ _ => rfl) (fun q hq => by rw [cf_h0, Nat.sub_self]; rfl) (fun u h1 h2 => by omega)
  rw [cf_oS] at this
  exact this
/-- what is taken at a tick -/
theorem c71 {S : cf_S} {c l f tg wt : Nat} {last : Bool} (X : cf_CX S c l f tg wt last hi hl v) (hf : f ≤ 401) (hE : S 4 c ≤ f) {u : Nat} (hu : f ≤ u) (hb : u < 2 ^ 20) (k : RL (cf_blk S c l u) hi hl v) : rx_CL L t 71 [.ref 77, .int (nI u)] hi hl v RL := by
  have V := X.1.1.1
  have hclm := cf_clm_b V (c := c) hf
  have hclf : f ≤ cf_clm S c f := by unfold cf_clm; omega
  refine w71_tabooAt ⟨min u (cf_clm S c f), cf_min X.2.2.2.2.2.1 (by omega) (by omega), by omega, c_retL ?_⟩
  rw [(X.2.2.2.2.2.2 _ (by omega) (by omega)).1, cf_blk_min hE]; exact k
end RXE
