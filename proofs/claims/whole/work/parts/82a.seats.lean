/-! few: the seats, the steps of each cart, what it has to go alone. -/
def cf_fs (S : cf_S) (q : Nat) : Bool := decide (q < S 0 0 * S 0 1) && !cf_isb S q
def cf_rk (S : cf_S) (q : Nat) : Nat := cf_cnt (cf_fs S) q
def cf_sk (S : cf_S) (k : Nat) : Nat := cf_ff (fun q => cf_fs S q && decide (cf_rk S q = k)) 64 - 1
theorem cf_rk_s (S : cf_S) (q : Nat) : cf_rk S (q + 1) = cf_rk S q + (bif cf_fs S q then 1 else 0) := rfl
theorem cf_rk_le {S : cf_S} {q : Nat} : ∀ d, cf_rk S q ≤ cf_rk S (q + d)
  | 0 => Nat.le_refl _
  | d + 1 => by
    have := cf_rk_le (S := S) (q := q) d
    rw [← Nat.add_assoc, cf_rk_s]; omega
theorem cf_rk_lt {S : cf_S} {q q' : Nat} (h : q < q') (hf : cf_fs S q = true) : cf_rk S q < cf_rk S q' := by
  have := cf_rk_le (S := S) (q := q + 1) (q' - (q + 1))
  rw [show q + 1 + (q' - (q + 1)) = q' by omega, cf_rk_s, hf] at this
  have e : (bif true then 1 else 0) = 1 := rfl
  omega
theorem cf_rk_inj {S : cf_S} {q q' : Nat} (h : cf_fs S q = true) (h' : cf_fs S q' = true) (e : cf_rk S q = cf_rk S q') : q = q' := by
  rcases Nat.lt_trichotomy q q' with z | z | z
  · have := cf_rk_lt z h; omega
  · exact z
  · have := cf_rk_lt z h'; omega
theorem cf_rk_ex {S : cf_S} {k : Nat} : ∀ n, k < cf_rk S n → ∃ q, q < n ∧ cf_fs S q = true ∧ cf_rk S q = k
  | 0, h => by
    have : cf_rk S 0 = 0 := rfl
    omega
  | n + 1, h => by
    by_cases z : k < cf_rk S n
    · obtain ⟨q, h1, h2⟩ := cf_rk_ex n z
      exact ⟨q, by omega, h2⟩
    · rw [cf_rk_s] at h
      cases e : cf_fs S n with
      | false =>
        rw [e] at h
        have : (bif false then 1 else 0) = 0 := rfl
        omega
      | true =>
        rw [e] at h
        have : (bif true then 1 else 0) = 1 := rfl
        exact ⟨n, by omega, e, by omega⟩
theorem cf_sk_ok {S : cf_S} {k : Nat} (h : k < cf_rk S 64) : cf_sk S k < 64 ∧ cf_fs S (cf_sk S k) = true ∧ cf_rk S (cf_sk S k) = k := by
  obtain ⟨q, h1, h2, h3⟩ := cf_rk_ex 64 h
  obtain ⟨i, i1, i2, i3, _⟩ := cf_ff_pos (p := fun q => cf_fs S q && decide (cf_rk S q = k)) (n := 64) ⟨q, h1, by rw [h2, decide_eq_true h3]; rfl⟩
  have e : cf_sk S k = i := by unfold cf_sk; rw [i3, Nat.add_sub_cancel]
  rw [Bool.and_eq_true, decide_eq_true_iff] at i2
  rw [e]; exact ⟨i1, i2⟩
theorem cf_sk_rk {S : cf_S} {q : Nat} (hq : q < 64) (h : cf_fs S q = true) : cf_sk S (cf_rk S q) = q := by
  have := cf_sk_ok (cf_rk_lt hq h)
  exact cf_rk_inj this.2.1 h this.2.2
/-- what the other carts stand on; u: the three (and 1) -/
def cf_sto (S : cf_S) (u : Nat → Nat) : Int64 := cf_un (fun o => if o + 1 = u 0 ∨ o + 1 = u 1 ∨ o + 1 = u 2 then 0 else cf_sd S 0 o) (S 0 2)
/-- where a cart may go -/
def cf_oq (S : cf_S) (u : Nat → Nat) (c q : Nat) : Bool := cf_fs S q && !cf_has (cf_sto S u) q && (decide (S 3 c = 1) || !cf_has (cf_sq S 0 0) q)
def cf_gg (S : cf_S) (u : Nat → Nat) (i : Nat) : Nat := if u i = 0 then 0 else if cf_fs S (S 5 (u i - 1) - 1) = true then cf_rk S (S 5 (u i - 1) - 1) + 1 else 0
def cf_ss (S : cf_S) (u : Nat → Nat) (i p m : Nat) : Nat := if u i = 0 ∨ ¬ p < cf_rk S 64 then 0 else if m = 0 then p + 1 else
  match cf_step (S 0 0) (S 0 1) (cf_sk S p) (m - 1) with
  | none => 0
  | some q => if cf_oq S u (u i - 1) q = true then cf_rk S q + 1 else 0
def cf_fl (S : cf_S) (u : Nat → Nat) (c : Nat) : Nat → Int64 := cf_fld (S 0 0) (S 0 1) (cf_bt (S 5 c - 1)) (cf_of (cf_oq S u c))
/-- the least n below 64 at which a square is reached -/
def cf_hq (fl : Nat → Int64) (q : Nat) : Nat := if cf_ff (fun n => cf_has (fl n) q) 64 = 0 then 1000000 else cf_ff (fun n => cf_has (fl n) q) 64 - 1
def cf_hh (S : cf_S) (u : Nat → Nat) (i p : Nat) : Nat := if p = 20 then 0 else if u i = 0 ∨ ¬ p < cf_rk S 64 then 1000000 else cf_hq (cf_fl S u (u i - 1)) (cf_sk S p)
theorem cf_hq_le {fl : Nat → Int64} {q n : Nat} (hn : n < 64) (h : cf_has (fl n) q = true) : cf_hq fl q ≤ n := by
  unfold cf_hq
  obtain ⟨i, i1, i2, i3, i4⟩ := cf_ff_pos (p := fun n => cf_has (fl n) q) (n := 64) ⟨n, hn, h⟩
  rw [i3, if_neg (by omega), Nat.add_sub_cancel]
  rcases Nat.lt_or_ge n i with z | z
  · have := i4 n z
    have this : cf_has (fl n) q = false := this
    rw [h] at this; cases this
  · exact z
theorem cf_hq_at {fl : Nat → Int64} {q : Nat} (h : cf_hq fl q ≤ 63) : cf_has (fl (cf_hq fl q)) q = true := by
  unfold cf_hq at h ⊢
  by_cases z : cf_ff (fun n => cf_has (fl n) q) 64 = 0
  · rw [if_pos z] at h; omega
  · rw [if_neg z] at h ⊢
    obtain ⟨i, hi⟩ : ∃ i, cf_ff (fun n => cf_has (fl n) q) 64 = i + 1 := ⟨cf_ff (fun n => cf_has (fl n) q) 64 - 1, by omega⟩
    rw [hi, Nat.add_sub_cancel]
    exact (cf_ff_some hi).2.1
theorem cf_hq_or (fl : Nat → Int64) (q : Nat) : cf_hq fl q ≤ 63 ∨ cf_hq fl q = 1000000 := by
  unfold cf_hq
  have := cf_ff_le (fun n => cf_has (fl n) q) 64
  split <;> omega
/-- 63 rounds are enough -/
theorem cf_fld_63 {w h : Nat} (hwh : w * h ≤ 64) {b : Int64} (hb : cf_in w h b) {f : Nat} (hf : f < 64) {q n : Nat} (hq : cf_has (cf_fld w h (cf_bt f) b n) q = true) : cf_has (cf_fld w h (cf_bt f) b 63) q = true := by
  have mono : ∀ n p, cf_has (cf_fld w h (cf_bt f) b n) p = true → cf_has (cf_fld w h (cf_bt f) b (n + 1)) p = true := fun n p hp => (cf_fld_rn hwh hb hf (n + 1) p).mpr (cf_rn_up ((cf_fld_rn hwh hb hf n p).mp hp))
  by_cases h0 : cf_has b f = true
  · have grow : ∀ n, (∃ m, m < n ∧ cf_fld w h (cf_bt f) b (m + 1) = cf_fld w h (cf_bt f) b m) ∨ n + 1 ≤ cf_ct1 (cf_has (cf_fld w h (cf_bt f) b n)) := by
      intro n
      induction n with
      | zero =>
        refine Or.inr ?_
        have : cf_ct1 (fun _ => false) < cf_ct1 (cf_has (cf_fld w h (cf_bt f) b 0)) := by
          refine cf_ct1_lt (i := f) (fun q _ z => by cases z) hf rfl ?_
          rw [cf_fld, cf_hand, h0, cf_hbt, decide_eq_true hf, decide_eq_true rfl]; rfl
        omega
      | succ n ih =>
        rcases ih with ⟨m, h1, h2⟩ | ih
        · exact Or.inl ⟨m, by omega, h2⟩
        · by_cases e : cf_fld w h (cf_bt f) b (n + 1) = cf_fld w h (cf_bt f) b n
          · exact Or.inl ⟨n, by omega, e⟩
          · refine Or.inr ?_
            have : ∃ p, p < 64 ∧ cf_has (cf_fld w h (cf_bt f) b n) p = false ∧ cf_has (cf_fld w h (cf_bt f) b (n + 1)) p = true := by
              apply Classical.byContradiction
              intro z
              apply e
              apply cf_ext
              intro p hp
              cases e1 : cf_has (cf_fld w h (cf_bt f) b n) p with
              | true => exact mono n p e1
              | false =>
                rw [cf_not_true]
                intro z2
                exact z ⟨p, hp, e1, z2⟩
            obtain ⟨p, hp, h1, h2⟩ := this
            have := cf_ct1_lt (fun q _ => mono n q) hp h1 h2
            omega
    have stable : ∃ m, m ≤ 63 ∧ cf_fld w h (cf_bt f) b (m + 1) = cf_fld w h (cf_bt f) b m := by
      rcases grow 64 with ⟨m, h1, h2⟩ | h1
      · exact ⟨m, by omega, h2⟩
      · have := cf_ct1_le (cf_has (cf_fld w h (cf_bt f) b 64)); omega
    obtain ⟨m, hm, hs⟩ := stable
    have all : ∀ d, cf_fld w h (cf_bt f) b (m + d) = cf_fld w h (cf_bt f) b m := by
      intro d
      induction d with
      | zero => rfl
      | succ d ih =>
        show cf_spr w h (cf_fld w h (cf_bt f) b (m + d)) &&& b = _
        rw [ih]; exact hs
    have h1 := (cf_fld_rn hwh hb hf (n + m) q).mpr (cf_rn_le ((cf_fld_rn hwh hb hf n q).mp hq) m)
    rw [Nat.add_comm, all n] at h1
    have h2 := all (63 - m)
    rw [show m + (63 - m) = 63 by omega] at h2
    rw [h2]; exact h1
  · exfalso
    have : ∀ n q, ¬ cf_rn w h (cf_has b) f n q := by
      intro n
      induction n with
      | zero => rintro q ⟨rfl, z⟩; exact h0 z
      | succ n ih =>
        rintro q ⟨_, z | ⟨d, p, _, _, z⟩⟩
        · exact ih q z
        · exact ih p z
    exact this n q ((cf_fld_rn hwh hb hf n q).mp hq)
