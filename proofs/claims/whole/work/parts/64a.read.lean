/-! The class's traffic: its numbers, its carts; the methods that read them. -/
def cf_C (S : cf_S) (hi : Nat → Nat → Int32) : Prop := hi 13 3 = nI (S 0 2) ∧ hi 13 4 = nI (S 0 3)
  ∧ (∀ c, c < S 0 2 → hi (rx_ct c) 5 = nI (S 3 c) ∧ hi (rx_ct c) 6 = nI (S 9 c) ∧ hi (rx_ct c) 7 = nI (S 4 c) ∧ hi (rx_ct c) 8 = oI (S 5 c) ∧ hi (rx_ct c) 9 = oI (S 6 c) ∧ hi (rx_ct c) 10 = nI (S 8 c) ∧ hi (rx_ct c) 11 = nI (S 7 c)
    ∧ ∀ t, t < S 4 c → hi (rx_ct c + 1) t = nI (S (20 + c) t))
  ∧ (∀ s, s < S 0 3 → hi (rx_sf s) 1 = nI (S 12 s))
theorem cf_any_eq {p q : Nat → Bool} : ∀ {n : Nat}, (∀ i, i < n → p i = q i) → cf_any p n = cf_any q n
  | 0, _ => rfl
  | n + 1, h => by rw [cf_any, cf_any, cf_any_eq (n := n) (fun i hi => h i (by omega)), h n (by omega)]
theorem cf_any_true {p : Nat → Bool} : ∀ {n i : Nat}, i < n → p i = true → cf_any p n = true
  | 0, i, h, _ => by omega
  | n + 1, i, h, hp => by
    rw [cf_any]
    by_cases e : i = n
    · rw [← e, hp, Bool.or_true]
    · rw [cf_any_true (n := n) (by omega) hp, Bool.true_or]
theorem cf_ff_zero {p : Nat → Bool} : ∀ {n : Nat}, (∀ i, i < n → p i = false) → cf_ff p n = 0
  | 0, _ => rfl
  | n + 1, h => by rw [cf_ff, cf_ff_zero (n := n) (fun i hi => h i (by omega)), if_pos rfl, h n (by omega)]; rfl
theorem cf_ff_at {p : Nat → Bool} {i : Nat} (h0 : cf_ff p i = 0) (hi : p i = true) : ∀ n, i < n → cf_ff p n = i + 1
  | 0, h => by omega
  | n + 1, h => by
    rw [cf_ff]
    by_cases e : i = n
    · subst e; rw [h0, if_pos rfl, hi]; rfl
    · rw [cf_ff_at h0 hi n (by omega), if_neg (by omega)]
section RXE
variable {L : Nat} {t : List (Nat × Nat)} {hi : Nat → Nat → Int32} {hl : Nat → Nat → Int64} {v : Nat → Nat → Option Nat}
variable {RI : Int32 → (Nat → Nat → Int32) → (Nat → Nat → Int64) → (Nat → Nat → Option Nat) → Prop}
variable {RL : Int64 → (Nat → Nat → Int32) → (Nat → Nat → Int64) → (Nat → Nat → Option Nat) → Prop}
variable {RR : Option Nat → (Nat → Nat → Int32) → (Nat → Nat → Int64) → (Nat → Nat → Option Nat) → Prop}
variable {RV : (Nat → Nat → Int32) → (Nat → Nat → Int64) → (Nat → Nat → Option Nat) → Prop}
theorem c44 {S : cf_S} (V : cf_V S) (C : cf_C S hi) {c j : Nat} (hc : c < S 0 2) (hj : j < 2 ^ 31) (k : RI (nI (cf_mt S c j)) hi hl v) : rx_CI L t 44 [.ref (rx_ct c), .int (nI j)] hi hl v RI := by
  have h6 := V.2.2.1
  obtain ⟨_, _, h4, _⟩ := (V.2.2.2.2.2.2.1 c hc).2
  have hC := C.2.2.1 c hc
  unfold cf_mt at k
  refine w44_moveFrom (by omega) ⟨fun q => absurd q (nI_pos hj), fun _ => ⟨fun q => c_retI ?_, fun q => ⟨j, rfl, ?_, c_retI ?_⟩⟩⟩
  · rw [hC.2.2.1, nI_leI (by omega) hj] at q
    rw [if_neg (by omega)] at k; exact k
  · rw [hC.2.2.1, nI_leI (by omega) hj] at q; omega
  · rw [hC.2.2.1, nI_leI (by omega) hj] at q
    rw [if_pos (by omega)] at k
    rw [hC.2.2.2.2.2.2.2 j (by omega)]; exact k
/-- the lesser of a tick and the last one known -/
theorem cf_min {T : Nat} {x : Int32} {j : Nat} (hT : x = nI T) (hb : T < 402) (hj : j < 2 ^ 31) : (if x < nI j then x else nI j) = nI (min j T) := by
  subst hT
  by_cases h : T < j
  · rw [if_pos (nI_lt h hj), Nat.min_eq_right (by omega)]
  · rw [if_neg (nI_nlt (by omega) (by omega)), Nat.min_eq_left (by omega)]
theorem c47 {T c j : Nat} (hT : hi 13 5 = nI T) (hb : T < 402) (hc : c < 6) (hj : j < 2 ^ 31) (k : RI (hi (rx_ct c + 3) (min j T)) hi hl v) : rx_CI L t 47 [.ref 13, .int (nI c), .int (nI j)] hi hl v RI :=
  w47_stanceAt ⟨c, rfl, hc, min j T, cf_min hT hb hj, by omega, c_retI k⟩
theorem c38 {T c j : Nat} (hT : hi 13 5 = nI T) (hb : T < 402) (hc : c < 12) (hj : j < 2 ^ 31) (k : RI (hi (rx_sf c + 1) (min j T)) hi hl v) : rx_CI L t 38 [.ref 13, .int (nI c), .int (nI j)] hi hl v RI :=
  w38_shelfAt ⟨c, rfl, hc, min j T, cf_min hT hb hj, by omega, c_retI k⟩
/-- what stands in the rows of STANCES and squares at one tick -/
def cf_at (n m j : Nat) (st sp : Nat → Nat) (hi : Nat → Nat → Int32) : Prop := (∀ c, c < n → hi (rx_ct c + 3) j = nI (st c) ∧ st c < 2 ^ 20) ∧ (∀ s, s < m → hi (rx_sf s + 1) j = nI (sp s) ∧ sp s < 64)
def cf_ly (n : Nat) (st sp : Nat → Nat) (q s : Nat) : Bool := decide (sp s = q) && !cf_any (fun c => decide (st c / 256 = s + 1)) n
theorem c46 {n m T j : Nat} {st sp : Nat → Nat} (hn : hi 13 3 = nI n) (h6 : n ≤ 6) (hT : hi 13 5 = nI T) (hb : T < 402) (hj : j < 2 ^ 31) (A : cf_at n m (min j T) st sp hi) {s q : Nat} (hm : m ≤ 12) (hs : s < m) (hq : q < 64)
    (k : RI (cf_B (cf_ly n st sp q s)) hi hl v) : rx_CI L t 46 [.ref 13, .int (nI s), .int (nI q), .int (nI j)] hi hl v RI := by
  have hsp := A.2 s hs
  unfold cf_ly at k
  refine w46_liesOn (c38 hT hb (by omega) hj ?_)
  rw [hsp.1]
  refine ⟨fun e => ?_, fun e => c_retI ?_⟩
  · rw [nI_eq (by omega) (by omega)] at e
    rw [decide_eq_true e, Bool.true_and] at k
    have loop : ∀ d i, i + d = n → cf_any (fun c => decide (st c / 256 = s + 1)) i = false → rx_aw 46 15 [.ref 13, .int (nI s), .int (nI q), .int (nI j), .int (nI i)] [] (rx_hp L t hi hl v) (fun r h2 => ∃ z : Int32, r = some (.int z) ∧ rx_ok2 L t h2 (RI z)) := by
      intro d
      induction d with
      | zero =>
        intro i hi0 ha
        have : i = n := by omega
        subst this
        rw [ha] at k
        refine w46_liesOn_15 ⟨fun _ => c_retI k, fun g => absurd ?_ g⟩
        rw [hn]; exact nI_le (Nat.le_refl _) (by omega)
      | succ d ih =>
        intro i hi0 ha
        refine w46_liesOn_15 ⟨fun g => ?_, fun _ => c47 hT hb (by omega) hj ?_⟩
        · rw [hn] at g; exact absurd g (nI_ge (by omega) (by omega))
        · have hst := A.1 i (by omega)
          rw [hst.1]
          refine c48 (by omega) ⟨fun g => c_retI ?_, fun g => ?_⟩
          · rw [cf_oneq (by omega) (by omega)] at g
            rw [cf_any_true (i := i) (by omega) (decide_eq_true g)] at k
            exact k
          · rw [cf_oneq (by omega) (by omega)] at g
            rw [nI_1]
            exact ih (i + 1) (by omega) (by rw [cf_any, ha, decide_eq_false g]; rfl)
    exact loop n 0 (by omega) rfl
  · rw [nI_eq (by omega) (by omega)] at e
    rw [decide_eq_false e] at k; exact k
theorem c45 {n m T j : Nat} {st sp : Nat → Nat} (hn : hi 13 3 = nI n) (h6 : n ≤ 6) (hmm : hi 13 4 = nI m) (hT : hi 13 5 = nI T) (hb : T < 402) (hj : j < 2 ^ 31) (A : cf_at n m (min j T) st sp hi) {q : Nat} (hm : m ≤ 12) (hq : q < 64)
    (k : RI (oI (cf_lie n m st sp q)) hi hl v) : rx_CI L t 45 [.ref 13, .int (nI q), .int (nI j)] hi hl v RI := by
  refine w45_lyingOn ?_
  have loop : ∀ d i, i + d = m → cf_ff (cf_ly n st sp q) i = 0 → rx_aw 45 2 [.ref 13, .int (nI q), .int (nI j), .int (nI i)] [] (rx_hp L t hi hl v) (fun r h2 => ∃ z : Int32, r = some (.int z) ∧ rx_ok2 L t h2 (RI z)) := by
    intro d
    induction d with
    | zero =>
      intro i hi0 ha
      have : i = m := by omega
      subst this
      have hk : cf_lie n i st sp q = 0 := ha
      rw [hk] at k
      refine w45_lyingOn_2 ⟨fun _ => c_retI k, fun g => absurd ?_ g⟩
      rw [hmm]; exact nI_le (Nat.le_refl _) (by omega)
    | succ d ih =>
      intro i hi0 ha
      refine w45_lyingOn_2 ⟨fun g => ?_, fun _ => c46 hn h6 hT hb hj A hm (by omega) hq ⟨fun g => ?_, fun g => c_retI ?_⟩⟩
      · rw [hmm] at g; exact absurd g (nI_ge (by omega) (by omega))
      · cases hp : cf_ly n st sp q i with
        | true => rw [hp] at g; exact absurd g (by decide)
        | false =>
          rw [nI_1]
          exact ih (i + 1) (by omega) (by rw [cf_ff, if_pos ha, hp]; rfl)
      · cases hp : cf_ly n st sp q i with
        | false => rw [hp] at g; exact absurd rfl g
        | true =>
          have hk : cf_lie n m st sp q = i + 1 := cf_ff_at ha hp m (by omega)
          rw [hk, cf_oS] at k; exact k
  exact loop m 0 (by omega) rfl
end RXE
