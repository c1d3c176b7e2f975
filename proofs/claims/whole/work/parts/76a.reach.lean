/-! What can be reached: flood of the class, leads of the reference. -/
/-- reached from f within n steps, on squares of op -/
def cf_rn (w h : Nat) (op : Nat → Bool) (f : Nat) : Nat → Nat → Prop
  | 0, q => q = f ∧ op q = true
  | n + 1, q => op q = true ∧ (cf_rn w h op f n q ∨ ∃ d p, d < 4 ∧ cf_step w h q d = some p ∧ cf_rn w h op f n p)
theorem cf_rn_op {w h : Nat} {op : Nat → Bool} {f : Nat} : ∀ {n q : Nat}, cf_rn w h op f n q → op q = true
  | 0, _, h => h.2
  | _ + 1, _, h => h.1
theorem cf_rn_up {w h : Nat} {op : Nat → Bool} {f n q : Nat} (hr : cf_rn w h op f n q) : cf_rn w h op f (n + 1) q := ⟨cf_rn_op hr, Or.inl hr⟩
theorem cf_rn_le {w h : Nat} {op : Nat → Bool} {f n q : Nat} (hr : cf_rn w h op f n q) : ∀ d, cf_rn w h op f (n + d) q
  | 0 => hr
  | d + 1 => cf_rn_up (cf_rn_le hr d)
theorem cf_fld_rn {w h : Nat} (hwh : w * h ≤ 64) {b : Int64} (hb : cf_in w h b) {f : Nat} (hf : f < 64) : ∀ n q, cf_has (cf_fld w h (cf_bt f) b n) q = true ↔ cf_rn w h (cf_has b) f n q
  | 0, q => by
    rw [cf_fld, cf_hand, Bool.and_eq_true, cf_hbt, Bool.and_eq_true, decide_eq_true_iff, decide_eq_true_iff]
    constructor
    · rintro ⟨⟨_, h1⟩, h2⟩; exact ⟨h1.symm, h2⟩
    · rintro ⟨h1, h2⟩; exact ⟨⟨hf, h1.symm⟩, h2⟩
  | n + 1, q => by
    rw [cf_fld, cf_hand, Bool.and_eq_true, cf_spr_has hwh, cf_fld_rn hwh hb hf n q]
    constructor
    · rintro ⟨h1 | ⟨_, d, p, hd, h1, h2⟩, h3⟩
      · exact ⟨h3, Or.inl h1⟩
      · exact ⟨h3, Or.inr ⟨d, p, hd, h1, (cf_fld_rn hwh hb hf n p).mp h2⟩⟩
    · rintro ⟨h3, h1 | ⟨d, p, hd, h1, h2⟩⟩
      · exact ⟨Or.inl h1, h3⟩
      · exact ⟨Or.inr ⟨hb q h3, d, p, hd, h1, (cf_fld_rn hwh hb hf n p).mpr h2⟩, h3⟩
theorem cf_sum_le2 {f g : Nat → Nat} : ∀ {n : Nat}, (∀ i, i < n → f i ≤ g i) → cf_sum f n ≤ cf_sum g n
  | 0, _ => Nat.le_refl _
  | n + 1, h => by
    have := cf_sum_le2 (n := n) (fun i hi => h i (by omega))
    have := h n (by omega)
    rw [cf_sum, cf_sum]; omega
theorem cf_sum_lt2 {f g : Nat → Nat} : ∀ {n i : Nat}, (∀ i, i < n → f i ≤ g i) → i < n → f i < g i → cf_sum f n < cf_sum g n
  | 0, _, _, hi, _ => by omega
  | n + 1, i, h, hi, hlt => by
    have h1 := cf_sum_le2 (n := n) (fun i hi => h i (by omega))
    have h2 := h n (by omega)
    rw [cf_sum, cf_sum]
    by_cases e : i = n
    · subst e; omega
    · have := cf_sum_lt2 (n := n) (i := i) (fun i hi => h i (by omega)) (by omega) hlt
      omega
/-- how many squares are in a set -/
def cf_ct1 (p : Nat → Bool) : Nat := cf_sum (fun q => bif p q then 1 else 0) 64
theorem cf_ct1_le (p : Nat → Bool) : cf_ct1 p ≤ 64 := by
  have : ∀ n, cf_sum (fun q => bif p q then 1 else 0) n ≤ n := by
    intro n
    induction n with
    | zero => exact Nat.le_refl _
    | succ n ih =>
      rw [cf_sum]
      cases p n
      · show _ + 0 ≤ _; omega
      · show _ + 1 ≤ _; omega
  exact this 64
theorem cf_ct1_lt {p r : Nat → Bool} (h : ∀ q, q < 64 → p q = true → r q = true) {i : Nat} (hi : i < 64) (h1 : p i = false) (h2 : r i = true) : cf_ct1 p < cf_ct1 r := by
  refine cf_sum_lt2 (i := i) (fun q hq => ?_) hi ?_
  · cases e : p q with
    | false => exact Nat.zero_le _
    | true => rw [h q hq e]; exact Nat.le_refl _
  · rw [h1, h2]; decide
/-- 64 rounds are enough -/
theorem cf_fld_64 {w h : Nat} (hwh : w * h ≤ 64) {b : Int64} (hb : cf_in w h b) {f : Nat} (hf : f < 64) {q : Nat} : cf_has (cf_fld w h (cf_bt f) b 64) q = true ↔ ∃ n, cf_rn w h (cf_has b) f n q := by
  have mono : ∀ n p, cf_has (cf_fld w h (cf_bt f) b n) p = true → cf_has (cf_fld w h (cf_bt f) b (n + 1)) p = true := fun n p hp => (cf_fld_rn hwh hb hf (n + 1) p).mpr (cf_rn_up ((cf_fld_rn hwh hb hf n p).mp hp))
  have grow : ∀ n, (∃ m, m < n ∧ cf_fld w h (cf_bt f) b (m + 1) = cf_fld w h (cf_bt f) b m) ∨ n ≤ cf_ct1 (cf_has (cf_fld w h (cf_bt f) b n)) := by
    intro n
    induction n with
    | zero => exact Or.inr (Nat.zero_le _)
    | succ n ih =>
      rcases ih with ⟨m, h1, h2⟩ | ih
      · exact Or.inl ⟨m, by omega, h2⟩
      · by_cases e : cf_fld w h (cf_bt f) b (n + 1) = cf_fld w h (cf_bt f) b n
        · exact Or.inl ⟨n, by omega, e⟩
        · refine Or.inr ?_
          have : ∃ p, p < 64 ∧ cf_has (cf_fld w h (cf_bt f) b n) p = false ∧ cf_has (cf_fld w h (cf_bt f) b (n + 1)) p = true := by
            apply Classical.byContradiction
            intro z
            apply e
            apply cf_ext
            intro p hp
            cases e1 : cf_has (cf_fld w h (cf_bt f) b n) p with
            | true => exact mono n p e1
            | false =>
              rw [cf_not_true]
              intro z2
              exact z ⟨p, hp, e1, z2⟩
          obtain ⟨p, hp, h1, h2⟩ := this
          have := cf_ct1_lt (fun q _ => mono n q) hp h1 h2
          omega
  have stable : ∃ m, m ≤ 64 ∧ cf_fld w h (cf_bt f) b (m + 1) = cf_fld w h (cf_bt f) b m := by
    rcases grow 65 with ⟨m, h1, h2⟩ | h1
    · exact ⟨m, by omega, h2⟩
    · have := cf_ct1_le (cf_has (cf_fld w h (cf_bt f) b 65)); omega
  obtain ⟨m, hm, hs⟩ := stable
  have all : ∀ d, cf_fld w h (cf_bt f) b (m + d) = cf_fld w h (cf_bt f) b m := by
    intro d
    induction d with
    | zero => rfl
    | succ d ih =>
      show cf_spr w h (cf_fld w h (cf_bt f) b (m + d)) &&& b = _
      rw [ih]; exact hs
  constructor
  · intro hq; exact ⟨64, (cf_fld_rn hwh hb hf 64 q).mp hq⟩
  · rintro ⟨n, hn⟩
    have h1 := (cf_fld_rn hwh hb hf (n + m) q).mpr (cf_rn_le hn m)
    rw [Nat.add_comm, all n] at h1
    have h2 := all (64 - m)
    rw [show m + (64 - m) = 64 by omega] at h2
    rw [h2]; exact h1
